set_option maxHeartbeats 4000000
set_option maxRecDepth 100000
theorem c_X11_refuse (G : GT) (a1 : Int32) (σ : Hp) : CtI G true yX11_refuse cX11_refuse 2 (some .int) 0 [(rf G 0), (.int a1)] (f_X11_refuse a1 σ) σ := by
  refine ctI (L0 := [some (rf G 0), some (.int a1)]) (by decide +kernel) rfl rfl rfl (fun κ hk he hret => ?_)
  have hk : KO G κ cX11_refuse RX11 0 := hk
  refine vv_iload_n (i := 1) 1 hk dX11_refuse_0 rfl rfl rfl ?_
  refine vv_if_ge 25 4 hk dX11_refuse_1 rfl rfl ?_ ?_
  · skip
    refine vv_iload_n (i := 1) 26 hk dX11_refuse_25 rfl rfl rfl ?_
    exact hret _ _ _ _ dX11_refuse_26
  · skip
    refine vv_iload_n (i := 1) 5 hk dX11_refuse_4 rfl rfl rfl ?_
    refine vv_aload_n (i := 0) 6 hk dX11_refuse_5 rfl rfl rfl ?_
    refine vv_getR 9 hk dX11_refuse_6 rfl la_0 rfl ci_11 rfl fl_11_95 ?_
    refine vv_alen 10 hk dX11_refuse_9 rfl la_85 rfl al_8 ?_
    refine vv_ineg 11 hk dX11_refuse_10 rfl ?_
    refine vv_icmp_le 25 14 hk dX11_refuse_11 rfl rfl ?_ ?_
    · skip
      refine vv_iload_n (i := 1) 26 hk dX11_refuse_25 rfl rfl rfl ?_
      exact hret _ _ _ _ dX11_refuse_26
    · skip
      refine vv_aload_n (i := 0) 15 hk dX11_refuse_14 rfl rfl rfl ?_
      refine vv_getR 18 hk dX11_refuse_15 rfl la_0 rfl ci_11 rfl fl_11_95 ?_
      refine vv_iload_n (i := 1) 19 hk dX11_refuse_18 rfl rfl rfl ?_
      refine vv_ineg 20 hk dX11_refuse_19 rfl ?_
      refine vv_dup2 21 hk dX11_refuse_20 rfl rfl rfl ?_
      refine vv_iald 22 hk he dX11_refuse_21 rfl la_85 sd_85 (fun v1 => ?_)
      refine vv_iconst 23 hk dX11_refuse_22 rfl ic_1 ?_
      refine vv_iadd 24 hk dX11_refuse_23 rfl ?_
      refine vv_iast 25 hk he dX11_refuse_24 rfl la_85 sd_85 (fun σ2 => ?_)
      refine vv_iload_n (i := 1) 26 hk dX11_refuse_25 rfl rfl rfl ?_
      exact hret _ _ _ _ dX11_refuse_26
theorem c_X11_refusal (G : GT) (a1 : Int32) (a2 : Int32) (a3 : Int32) (a4 : Int32) (σ : Hp) : CtI G true yX11_refusal cX11_refusal 5 (some .int) 1 [(rf G 0), (.int a1), (.int a2), (.int a3), (.int a4)] (f_X11_refusal a1 a2 a3 a4 σ) σ := by
  refine ctI (L0 := [some (rf G 0), some (.int a1), some (.int a2), some (.int a3), some (.int a4)]) (by decide +kernel) rfl rfl rfl (fun κ hk he hret => ?_)
  have hk : KO G κ cX11_refusal RX11 1 := hk
  refine vv_iload_n (i := 1) 1 hk dX11_refusal_0 rfl rfl rfl ?_
  refine vv_if_eq 10 4 hk dX11_refusal_1 rfl rfl ?_ ?_
  · skip
    refine vv_iload_n (i := 2) 11 hk dX11_refusal_10 rfl rfl rfl ?_
    refine vv_if_eq 21 14 hk dX11_refusal_11 rfl rfl ?_ ?_
    · skip
      refine vv_iload_n (i := 3) 22 hk dX11_refusal_21 rfl rfl rfl ?_
      refine vv_if_eq 32 25 hk dX11_refusal_22 rfl rfl ?_ ?_
      · skip
        refine vv_iload 34 hk dX11_refusal_32 rfl rfl ?_
        refine vv_jn (fun t1 => (t1.2, 47, [some (rf G 0), none, none, none, none], [(.int t1.1)])) (fun t1 => ?_) (fun k47 hk47 => ?_)
        · skip
          exact hret _ _ _ _ dX11_refusal_47
        · skip
          refine vv_if_eq 46 37 hk dX11_refusal_34 rfl rfl ?_ ?_
          · skip
            refine vv_iconst 47 hk dX11_refusal_46 rfl ic_0 ?_
            exact vv_le (ll_s rfl (ll_n (ll_n (ll_n (ll_n ll_0))))) (hk47 ((0 : Int32), σ))
          · skip
            refine vv_aload_n (i := 0) 38 hk dX11_refusal_37 rfl rfl rfl ?_
            refine vv_bipush 40 hk dX11_refusal_38 rfl bp_m6 ?_
            refine vv_invI (st := []) 43 hk he dX11_refusal_40 rfl ml_11_193 cf_X11_refuse la_0 ci_11 (c_X11_refuse G (-6 : Int32) σ) rfl rfl rfl rfl (fun v2 σ3 => ?_)
            refine vv_goto 47 hk dX11_refusal_43 rfl ?_
            exact vv_le (ll_s rfl (ll_n (ll_n (ll_n (ll_n ll_0))))) (hk47 (v2, σ3))
      · skip
        refine vv_aload_n (i := 0) 26 hk dX11_refusal_25 rfl rfl rfl ?_
        refine vv_bipush 28 hk dX11_refusal_26 rfl bp_m4 ?_
        refine vv_invI (st := []) 31 hk he dX11_refusal_28 rfl ml_11_193 cf_X11_refuse la_0 ci_11 (c_X11_refuse G (-4 : Int32) σ) rfl rfl rfl rfl (fun v4 σ5 => ?_)
        exact hret _ _ _ _ dX11_refusal_31
    · skip
      refine vv_aload_n (i := 0) 15 hk dX11_refusal_14 rfl rfl rfl ?_
      refine vv_bipush 17 hk dX11_refusal_15 rfl bp_m2 ?_
      refine vv_invI (st := []) 20 hk he dX11_refusal_17 rfl ml_11_193 cf_X11_refuse la_0 ci_11 (c_X11_refuse G (-2 : Int32) σ) rfl rfl rfl rfl (fun v6 σ7 => ?_)
      exact hret _ _ _ _ dX11_refusal_20
  · skip
    refine vv_aload_n (i := 0) 5 hk dX11_refusal_4 rfl rfl rfl ?_
    refine vv_iconst 6 hk dX11_refusal_5 rfl ic_m1 ?_
    refine vv_invI (st := []) 9 hk he dX11_refusal_6 rfl ml_11_193 cf_X11_refuse la_0 ci_11 (c_X11_refuse G (-1 : Int32) σ) rfl rfl rfl rfl (fun v8 σ9 => ?_)
    exact hret _ _ _ _ dX11_refusal_9
theorem c_X11_all (G : GT) (a1 : Int32) (a2 : Int32) (σ : Hp) : CtI G true yX11_all cX11_all 4 (some .int) 2 [(rf G 0), (.int a1), (.int a2)] (f_X11_all a1 a2 σ) σ := by
  refine ctI (L0 := [some (rf G 0), some (.int a1), some (.int a2), none]) (by decide +kernel) rfl rfl rfl (fun κ hk he hret => ?_)
  have hk : KO G κ cX11_all RX11 2 := hk
  refine vv_aload_n (i := 0) 1 hk dX11_all_0 rfl rfl rfl ?_
  refine vv_iload_n (i := 1) 2 hk dX11_all_1 rfl rfl rfl ?_
  refine vv_iconst 3 hk dX11_all_2 rfl ic_3 ?_
  refine vv_staIr (st := [(rf G 0)]) 6 hk he dX11_all_3 rfl ml_11_99 sf_X11_within (c_X11_within G a1 (3 : Int32) σ) rfl rfl rfl rfl (fun v1 => ?_)
  refine vv_jn (fun t2 => (σ, 14, [some (rf G 0), some (.int a1), some (.int a2), none], [(.int t2), (rf G 0)])) (fun t2 => ?_) (fun k14 hk14 => ?_)
  · skip
    refine vv_iload_n (i := 2) 15 hk dX11_all_14 rfl rfl rfl ?_
    refine vv_iconst 16 hk dX11_all_15 rfl ic_5 ?_
    refine vv_staIr (st := [(.int t2), (rf G 0)]) 19 hk he dX11_all_16 rfl ml_11_99 sf_X11_within (c_X11_within G a2 (5 : Int32) σ) rfl rfl rfl rfl (fun v3 => ?_)
    refine vv_jn (fun t4 => (σ, 27, [some (rf G 0), some (.int a1), some (.int a2), none], [(.int t4), (.int t2), (rf G 0)])) (fun t4 => ?_) (fun k27 hk27 => ?_)
    · skip
      refine vv_iconst 28 hk dX11_all_27 rfl ic_0 ?_
      refine vv_iconst 29 hk dX11_all_28 rfl ic_0 ?_
      refine vv_invI (st := []) 32 hk he dX11_all_29 rfl ml_11_107 cf_X11_refusal la_0 ci_11 (c_X11_refusal G t2 t4 (0 : Int32) (0 : Int32) σ) rfl rfl rfl rfl (fun v5 σ6 => ?_)
      refine vv_istore_n (i := 3) 33 [some (rf G 0), some (.int a1), some (.int a2), some (.int v5)] hk dX11_all_32 rfl rfl rfl rfl ?_
      refine vv_iload_n (i := 3) 34 hk dX11_all_33 rfl rfl rfl ?_
      refine vv_jn (fun t7 => (σ6, 54, [some (rf G 0), none, none, none], [(.int t7)])) (fun t7 => ?_) (fun k54 hk54 => ?_)
      · skip
        exact hret _ _ _ _ dX11_all_54
      · skip
        refine vv_if_eq 41 37 hk dX11_all_34 rfl rfl ?_ ?_
        · skip
          refine vv_aload_n (i := 0) 42 hk dX11_all_41 rfl rfl rfl ?_
          refine vv_getR 45 hk dX11_all_42 rfl la_0 rfl ci_11 rfl fl_11_19 ?_
          refine vv_aload_n (i := 0) 46 hk dX11_all_45 rfl rfl rfl ?_
          refine vv_getR 49 hk dX11_all_46 rfl la_0 rfl ci_11 rfl fl_11_10 ?_
          refine vv_iload_n (i := 1) 50 hk dX11_all_49 rfl rfl rfl ?_
          refine vv_iload_n (i := 2) 51 hk dX11_all_50 rfl rfl rfl ?_
          refine vv_invIr (st := []) 54 hk he dX11_all_51 rfl ml_11_174 cf_X4_total la_13 ci_4 (c_X4_total_13 G a1 a2 σ6) rfl rfl rfl rfl (fun v8 => ?_)
          exact vv_le (ll_s rfl (ll_n (ll_n (ll_n ll_0)))) (hk54 v8)
        · skip
          refine vv_iload_n (i := 3) 38 hk dX11_all_37 rfl rfl rfl ?_
          refine vv_goto 54 hk dX11_all_38 rfl ?_
          exact vv_le (ll_s rfl (ll_n (ll_n (ll_n ll_0)))) (hk54 v5)
    · skip
      refine vv_if_ne 26 22 hk dX11_all_19 rfl rfl ?_ ?_
      · skip
        refine vv_iconst 23 hk dX11_all_22 rfl ic_1 ?_
        refine vv_goto 27 hk dX11_all_23 rfl ?_
        exact vv_le (ll_s rfl (ll_s rfl (ll_s rfl (ll_n ll_0)))) (hk27 (1 : Int32))
      · skip
        refine vv_iconst 27 hk dX11_all_26 rfl ic_0 ?_
        exact vv_le (ll_s rfl (ll_s rfl (ll_s rfl (ll_n ll_0)))) (hk27 (0 : Int32))
  · skip
    refine vv_if_ne 13 9 hk dX11_all_6 rfl rfl ?_ ?_
    · skip
      refine vv_iconst 10 hk dX11_all_9 rfl ic_1 ?_
      refine vv_goto 14 hk dX11_all_10 rfl ?_
      exact vv_le (ll_s rfl (ll_s rfl (ll_s rfl (ll_n ll_0)))) (hk14 (1 : Int32))
    · skip
      refine vv_iconst 14 hk dX11_all_13 rfl ic_0 ?_
      exact vv_le (ll_s rfl (ll_s rfl (ll_s rfl (ll_n ll_0)))) (hk14 (0 : Int32))
theorem c_X11_anew (G : GT) (σ : Hp) : CtI G true yX11_anew cX11_anew 2 (some .int) 0 [(rf G 0)] (f_X11_anew σ) σ := by
  refine ctI (L0 := [some (rf G 0), none]) (by decide +kernel) rfl rfl rfl (fun κ hk he hret => ?_)
  have hk : KO G κ cX11_anew RX11 0 := hk
  refine vv_aload_n (i := 0) 1 hk dX11_anew_0 rfl rfl rfl ?_
  refine vv_getR 4 hk dX11_anew_1 rfl la_0 rfl ci_11 rfl fl_11_91 ?_
  refine vv_getI 7 hk he dX11_anew_4 rfl la_77 rfl ci_9 rfl fl_11_283 sd_77 ?_
  refine vv_aload_n (i := 0) 8 hk dX11_anew_7 rfl rfl rfl ?_
  refine vv_getR 11 hk dX11_anew_8 rfl la_0 rfl ci_11 rfl fl_11_91 ?_
  refine vv_getI 14 hk he dX11_anew_11 rfl la_77 rfl ci_9 rfl fl_11_289 sd_77 ?_
  refine vv_iadd 15 hk dX11_anew_14 rfl ?_
  refine vv_istore_nL (i := 1) 16 (fun x1 => [some (rf G 0), some (.int x1)]) hk dX11_anew_15 rfl rfl rfl (fun _ => rfl) (fun x1 => ?_)
  refine vv_aload_n (i := 0) 17 hk dX11_anew_16 rfl rfl rfl ?_
  refine vv_getR 20 hk dX11_anew_17 rfl la_0 rfl ci_11 rfl fl_11_91 ?_
  refine vv_iconst 21 hk dX11_anew_20 rfl ic_0 ?_
  refine vv_putI 24 hk he dX11_anew_21 rfl la_77 rfl ci_9 rfl fl_11_283 sd_77 rfl rfl (fun σ2 => ?_)
  refine vv_aload_n (i := 0) 25 hk dX11_anew_24 rfl rfl rfl ?_
  refine vv_getR 28 hk dX11_anew_25 rfl la_0 rfl ci_11 rfl fl_11_91 ?_
  refine vv_iconst 29 hk dX11_anew_28 rfl ic_0 ?_
  refine vv_putI 32 hk he dX11_anew_29 rfl la_77 rfl ci_9 rfl fl_11_289 sd_77 rfl rfl (fun σ3 => ?_)
  refine vv_iload_n (i := 1) 33 hk dX11_anew_32 rfl rfl rfl ?_
  exact hret _ _ _ _ dX11_anew_33
theorem c_X11_choices (G : GT) (a1 : Int32) (a2 : Int32) (σ : Hp) : CtJ G true yX11_choices cX11_choices 5 (some .long) 0 [(.int a1), (.int a2)] (rdJ (f_X11_choices a1 a2) σ) σ := by
  refine ctJr (L0 := [some (.int a1), some (.int a2), none, none, none]) (by decide +kernel) rfl rfl rfl (fun κ hk he hret => ?_)
  have hk : KO G κ cX11_choices RX11 0 := hk
  refine vv_iload_n (i := 1) 1 hk dX11_choices_0 rfl rfl rfl ?_
  refine vv_if_lt 9 4 hk dX11_choices_1 rfl rfl ?_ ?_
  · skip
    refine vv_lconst 10 hk dX11_choices_9 rfl lc_0 ?_
    exact hret _ _ _ dX11_choices_10
  · skip
    refine vv_iload_n (i := 1) 5 hk dX11_choices_4 rfl rfl rfl ?_
    refine vv_iload_n (i := 0) 6 hk dX11_choices_5 rfl rfl rfl ?_
    refine vv_icmp_le 11 9 hk dX11_choices_6 rfl rfl ?_ ?_
    · skip
      refine vv_lconst 12 hk dX11_choices_11 rfl lc_1 ?_
      refine vv_lstore_n (i := 2) 13 [some (.int a1), some (.int a2), some (.long (1 : Int64)), none, none] hk dX11_choices_12 rfl rfl rfl rfl ?_
      refine vv_iconst 14 hk dX11_choices_13 rfl ic_1 ?_
      refine vv_istore 16 [some (.int a1), some (.int a2), some (.long (1 : Int64)), none, some (.int (1 : Int32))] hk dX11_choices_14 rfl rfl rfl ?_
      refine vv_lp (fun t1 => (σ, 16, [some (.int a1), some (.int a2), some (.long t1.1), none, some (.int t1.2)], [])) (fun kl16 hkl16 t1 => ?_) FU ((1 : Int64), (1 : Int32))
      refine vv_iload 18 hk dX11_choices_16 rfl rfl ?_
      refine vv_iload_n (i := 1) 19 hk dX11_choices_18 rfl rfl rfl ?_
      refine vv_icmp_gt 42 22 hk dX11_choices_19 rfl rfl ?_ ?_
      · skip
        refine vv_lload_n (i := 2) 43 hk dX11_choices_42 rfl rfl rfl ?_
        exact hret _ _ _ dX11_choices_43
      · skip
        refine vv_lload_n (i := 2) 23 hk dX11_choices_22 rfl rfl rfl ?_
        refine vv_iload_n (i := 0) 24 hk dX11_choices_23 rfl rfl rfl ?_
        refine vv_iload_n (i := 1) 25 hk dX11_choices_24 rfl rfl rfl ?_
        refine vv_isub 26 hk dX11_choices_25 rfl ?_
        refine vv_iload 28 hk dX11_choices_26 rfl rfl ?_
        refine vv_iadd 29 hk dX11_choices_28 rfl ?_
        refine vv_i2l 30 hk dX11_choices_29 rfl ?_
        refine vv_lmul 31 hk dX11_choices_30 rfl ?_
        refine vv_iload 33 hk dX11_choices_31 rfl rfl ?_
        refine vv_i2l 34 hk dX11_choices_33 rfl ?_
        refine vv_ldiv 35 hk dX11_choices_34 rfl ?_
        refine vv_lstore_nL (i := 2) 36 (fun x2 => [some (.int a1), some (.int a2), some (.long x2), none, some (.int t1.2)]) hk dX11_choices_35 rfl rfl rfl (fun _ => rfl) (fun x2 => ?_)
        refine vv_iinc 39 (fun x3 => [some (.int a1), some (.int a2), some (.long x2), none, some (.int x3)]) hk dX11_choices_36 rfl rfl ic_1 (fun _ => rfl) (fun x3 => ?_)
        refine vv_goto 16 hk dX11_choices_39 rfl ?_
        exact vv_le (ll_s rfl (ll_s rfl (ll_s rfl (ll_n (ll_s rfl ll_0))))) (hkl16 (x2, x3))
    · skip
      refine vv_lconst 10 hk dX11_choices_9 rfl lc_0 ?_
      exact hret _ _ _ dX11_choices_10
theorem c_X11_count (G : GT) (a1 : Int32) (σ : Hp) : CtI G true yX11_count cX11_count 2 (some .int) 1 [(rf G 0), (.int a1)] (rdI (f_X11_count a1 σ) σ) σ := by
  refine ctIr (L0 := [some (rf G 0), some (.int a1)]) (by decide +kernel) rfl rfl rfl (fun κ hk he hret => ?_)
  have hk : KO G κ cX11_count RX11 1 := hk
  refine vv_iload_n (i := 1) 1 hk dX11_count_0 rfl rfl rfl ?_
  refine vv_bipush 3 hk dX11_count_1 rfl bp_11 ?_
  refine vv_jn (fun t1 => (σ, 22, [some (rf G 0), some (.int a1)], [])) (fun t1 => ?_) (fun k22 hk22 => ?_)
  · skip
    refine vv_iload_n (i := 1) 23 hk dX11_count_22 rfl rfl rfl ?_
    refine vv_case (fun h0 => ?_) (fun h0 => ?_)
    · skip
      refine vv_tabIn 72 hk dX11_count_23 (by rw [h0]; decide +kernel) (by rw [h0]; decide +kernel) (off := 49) (by rw [h0]; decide +kernel) rfl ?_
      refine vv_aload_n (i := 0) 73 hk dX11_count_72 rfl rfl rfl ?_
      refine vv_getR 76 hk dX11_count_73 rfl la_0 rfl ci_11 rfl fl_11_19 ?_
      refine vv_getI 79 hk he dX11_count_76 rfl la_13 rfl ci_4 rfl fl_11_152 sd_13 ?_
      exact hret _ _ _ dX11_count_79
    · skip
      refine vv_case (fun h1 => ?_) (fun h1 => ?_)
      · skip
        refine vv_tabIn 80 hk dX11_count_23 (by rw [h1]; decide +kernel) (by rw [h1]; decide +kernel) (off := 57) (by rw [h1]; decide +kernel) rfl ?_
        refine vv_aload_n (i := 0) 81 hk dX11_count_80 rfl rfl rfl ?_
        refine vv_getR 84 hk dX11_count_81 rfl la_0 rfl ci_11 rfl fl_11_10 ?_
        refine vv_getI 87 hk he dX11_count_84 rfl la_1 rfl ci_5 rfl fl_11_103 sd_1 ?_
        exact hret _ _ _ dX11_count_87
      · skip
        refine vv_case (fun h2 => ?_) (fun h2 => ?_)
        · skip
          refine vv_tabIn 88 hk dX11_count_23 (by rw [h2]; decide +kernel) (by rw [h2]; decide +kernel) (off := 65) (by rw [h2]; decide +kernel) rfl ?_
          refine vv_aload_n (i := 0) 89 hk dX11_count_88 rfl rfl rfl ?_
          refine vv_getR 92 hk dX11_count_89 rfl la_0 rfl ci_11 rfl fl_11_10 ?_
          refine vv_getI 95 hk he dX11_count_92 rfl la_1 rfl ci_5 rfl fl_11_135 sd_1 ?_
          exact hret _ _ _ dX11_count_95
        · skip
          refine vv_case (fun h3 => ?_) (fun h3 => ?_)
          · skip
            refine vv_tabIn 96 hk dX11_count_23 (by rw [h3]; decide +kernel) (by rw [h3]; decide +kernel) (off := 73) (by rw [h3]; decide +kernel) rfl ?_
            refine vv_aload_n (i := 0) 97 hk dX11_count_96 rfl rfl rfl ?_
            refine vv_getR 100 hk dX11_count_97 rfl la_0 rfl ci_11 rfl fl_11_10 ?_
            refine vv_getI 103 hk he dX11_count_100 rfl la_1 rfl ci_5 rfl fl_11_220 sd_1 ?_
            refine vv_staIr (st := []) 106 hk he dX11_count_103 rfl ml_11_234 sf_J6_bitCount_0f7a4 (c_J6_bitCount_0f7a4 G (σ.1 1 10) σ) rfl rfl rfl rfl (fun v2 => ?_)
            exact hret _ _ _ dX11_count_106
          · skip
            refine vv_case (fun h4 => ?_) (fun h4 => ?_)
            · skip
              refine vv_tabIn 107 hk dX11_count_23 (by rw [h4]; decide +kernel) (by rw [h4]; decide +kernel) (off := 84) (by rw [h4]; decide +kernel) rfl ?_
              refine vv_aload_n (i := 0) 108 hk dX11_count_107 rfl rfl rfl ?_
              refine vv_getR 111 hk dX11_count_108 rfl la_0 rfl ci_11 rfl fl_11_10 ?_
              refine vv_getI 114 hk he dX11_count_111 rfl la_1 rfl ci_5 rfl fl_11_142 sd_1 ?_
              exact hret _ _ _ dX11_count_114
            · skip
              refine vv_case (fun h5 => ?_) (fun h5 => ?_)
              · skip
                refine vv_tabIn 115 hk dX11_count_23 (by rw [h5]; decide +kernel) (by rw [h5]; decide +kernel) (off := 92) (by rw [h5]; decide +kernel) rfl ?_
                refine vv_aload_n (i := 0) 116 hk dX11_count_115 rfl rfl rfl ?_
                refine vv_getR 119 hk dX11_count_116 rfl la_0 rfl ci_11 rfl fl_11_10 ?_
                refine vv_getI 122 hk he dX11_count_119 rfl la_1 rfl ci_5 rfl fl_11_162 sd_1 ?_
                refine vv_staIr (st := []) 125 hk he dX11_count_122 rfl ml_11_234 sf_J6_bitCount_0f7a4 (c_J6_bitCount_0f7a4 G (σ.1 1 15) σ) rfl rfl rfl rfl (fun v3 => ?_)
                exact hret _ _ _ dX11_count_125
              · skip
                refine vv_case (fun h6 => ?_) (fun h6 => ?_)
                · skip
                  refine vv_tabIn 126 hk dX11_count_23 (by rw [h6]; decide +kernel) (by rw [h6]; decide +kernel) (off := 103) (by rw [h6]; decide +kernel) rfl ?_
                  refine vv_aload_n (i := 0) 127 hk dX11_count_126 rfl rfl rfl ?_
                  refine vv_getR 130 hk dX11_count_127 rfl la_0 rfl ci_11 rfl fl_11_45 ?_
                  refine vv_getI 133 hk he dX11_count_130 rfl la_32 rfl ci_8 rfl fl_11_316 sd_32 ?_
                  refine vv_staIr (st := []) 136 hk he dX11_count_133 rfl ml_11_234 sf_J6_bitCount_0f7a4 (c_J6_bitCount_0f7a4 G (σ.1 32 3) σ) rfl rfl rfl rfl (fun v4 => ?_)
                  exact hret _ _ _ dX11_count_136
                · skip
                  refine vv_case (fun h7 => ?_) (fun h7 => ?_)
                  · skip
                    refine vv_tabIn 137 hk dX11_count_23 (by rw [h7]; decide +kernel) (by rw [h7]; decide +kernel) (off := 114) (by rw [h7]; decide +kernel) rfl ?_
                    refine vv_aload_n (i := 0) 138 hk dX11_count_137 rfl rfl rfl ?_
                    refine vv_getR 141 hk dX11_count_138 rfl la_0 rfl ci_11 rfl fl_11_29 ?_
                    refine vv_getI 144 hk he dX11_count_141 rfl la_25 rfl ci_0 rfl fl_11_319 sd_25 ?_
                    exact hret _ _ _ dX11_count_144
                  · skip
                    refine vv_case (fun h8 => ?_) (fun h8 => ?_)
                    · skip
                      refine vv_tabIn 145 hk dX11_count_23 (by rw [h8]; decide +kernel) (by rw [h8]; decide +kernel) (off := 122) (by rw [h8]; decide +kernel) rfl ?_
                      refine vv_aload_n (i := 0) 146 hk dX11_count_145 rfl rfl rfl ?_
                      refine vv_getR 149 hk dX11_count_146 rfl la_0 rfl ci_11 rfl fl_11_36 ?_
                      refine vv_getI 152 hk he dX11_count_149 rfl la_29 rfl ci_6 rfl fl_11_183 sd_29 ?_
                      exact hret _ _ _ dX11_count_152
                    · skip
                      refine vv_tabOut 153 hk dX11_count_23 (by have q0 := ne_int h0; have q1 := ne_int h1; have q2 := ne_int h2; have q3 := ne_int h3; have q4 := ne_int h4; have q5 := ne_int h5; have q6 := ne_int h6; have q7 := ne_int h7; have q8 := ne_int h8; rw [ti_0] at q0; rw [ti_1] at q1; rw [ti_2] at q2; rw [ti_3] at q3; rw [ti_4] at q4; rw [ti_5] at q5; rw [ti_6] at q6; rw [ti_7] at q7; rw [ti_8] at q8; omega) rfl ?_
                      refine vv_bipush 155 hk dX11_count_153 rfl bp_m9 ?_
                      exact hret _ _ _ dX11_count_155
  · skip
    refine vv_icmp_lt 22 6 hk dX11_count_3 rfl rfl ?_ ?_
    · skip
      exact vv_le (ll_s rfl (ll_s rfl ll_0)) (hk22 ())
    · skip
      refine vv_iload_n (i := 1) 7 hk dX11_count_6 rfl rfl rfl ?_
      refine vv_bipush 9 hk dX11_count_7 rfl bp_17 ?_
      refine vv_icmp_gt 22 12 hk dX11_count_9 rfl rfl ?_ ?_
      · skip
        exact vv_le (ll_s rfl (ll_s rfl ll_0)) (hk22 ())
      · skip
        refine vv_aload_n (i := 0) 13 hk dX11_count_12 rfl rfl rfl ?_
        refine vv_getR 16 hk dX11_count_13 rfl la_0 rfl ci_11 rfl fl_11_95 ?_
        refine vv_iload_n (i := 1) 17 hk dX11_count_16 rfl rfl rfl ?_
        refine vv_bipush 19 hk dX11_count_17 rfl bp_10 ?_
        refine vv_isub 20 hk dX11_count_19 rfl ?_
        refine vv_iald 21 hk he dX11_count_20 rfl la_85 sd_85 (fun v5 => ?_)
        exact hret _ _ _ dX11_count_21
theorem c_X11_feed (G : GT) (a1 : Int32) (a2 : Int64) (σ : Hp) : CtI G true yX11_feed cX11_feed 5 (some .int) 2 [(rf G 0), (.int a1), (.long a2)] (f_X11_feed a1 a2 σ) σ := by
  refine ctI (L0 := [some (rf G 0), some (.int a1), some (.long a2), none, none]) (by decide +kernel) rfl rfl rfl (fun κ hk he hret => ?_)
  have hk : KO G κ cX11_feed RX11 2 := hk
  refine vv_aload_n (i := 0) 1 hk dX11_feed_0 rfl rfl rfl ?_
  refine vv_iconst 2 hk dX11_feed_1 rfl ic_0 ?_
  refine vv_iconst 3 hk dX11_feed_2 rfl ic_0 ?_
  refine vv_iload_n (i := 1) 4 hk dX11_feed_3 rfl rfl rfl ?_
  refine vv_iconst 5 hk dX11_feed_4 rfl ic_1 ?_
  refine vv_jn (fun t1 => (σ, 13, [some (rf G 0), some (.int a1), some (.long a2), none, none], [(.int t1), (.int (0 : Int32)), (.int (0 : Int32)), (rf G 0)])) (fun t1 => ?_) (fun k13 hk13 => ?_)
  · skip
    refine vv_iload_n (i := 1) 14 hk dX11_feed_13 rfl rfl rfl ?_
    refine vv_bipush 16 hk dX11_feed_14 rfl bp_8 ?_
    refine vv_jn (fun t2 => (σ, 38, [some (rf G 0), some (.int a1), some (.long a2), none, none], [(.int t2), (.int t1), (.int (0 : Int32)), (.int (0 : Int32)), (rf G 0)])) (fun t2 => ?_) (fun k38 hk38 => ?_)
    · skip
      refine vv_invI (st := []) 41 hk he dX11_feed_38 rfl ml_11_107 cf_X11_refusal la_0 ci_11 (c_X11_refusal G (0 : Int32) (0 : Int32) t1 t2 σ) rfl rfl rfl rfl (fun v3 σ4 => ?_)
      refine vv_istore 43 [some (rf G 0), some (.int a1), some (.long a2), none, some (.int v3)] hk dX11_feed_41 rfl rfl rfl ?_
      refine vv_iload 45 hk dX11_feed_43 rfl rfl ?_
      refine vv_jn (fun t5 => (t5.2, 62, [some (rf G 0), none, none, none, none], [(.int t5.1)])) (fun t5 => ?_) (fun k62 hk62 => ?_)
      · skip
        exact hret _ _ _ _ dX11_feed_62
      · skip
        refine vv_if_eq 53 48 hk dX11_feed_45 rfl rfl ?_ ?_
        · skip
          refine vv_aload_n (i := 0) 54 hk dX11_feed_53 rfl rfl rfl ?_
          refine vv_getR 57 hk dX11_feed_54 rfl la_0 rfl ci_11 rfl fl_11_36 ?_
          refine vv_iload_n (i := 1) 58 hk dX11_feed_57 rfl rfl rfl ?_
          refine vv_lload_n (i := 2) 59 hk dX11_feed_58 rfl rfl rfl ?_
          refine vv_invI (st := []) 62 hk he dX11_feed_59 rfl ml_11_186 cf_X6_take la_29 ci_6 (c_X6_take G a1 a2 σ4) rfl rfl rfl rfl (fun v6 σ7 => ?_)
          exact vv_le (ll_s rfl (ll_n (ll_n (ll_n (ll_n ll_0))))) (hk62 (v6, σ7))
        · skip
          refine vv_iload 50 hk dX11_feed_48 rfl rfl ?_
          refine vv_goto 62 hk dX11_feed_50 rfl ?_
          exact vv_le (ll_s rfl (ll_n (ll_n (ll_n (ll_n ll_0))))) (hk62 (v3, σ4))
    · skip
      refine vv_jn (fun t8 => (σ, 33, [some (rf G 0), some (.int a1), some (.long a2), none, none], [(.int t1), (.int (0 : Int32)), (.int (0 : Int32)), (rf G 0)])) (fun t8 => ?_) (fun k33 hk33 => ?_)
      · skip
        refine vv_iconst 34 hk dX11_feed_33 rfl ic_1 ?_
        refine vv_goto 38 hk dX11_feed_34 rfl ?_
        exact vv_le (ll_s rfl (ll_s rfl (ll_s rfl (ll_n (ll_n ll_0))))) (hk38 (1 : Int32))
      · skip
        refine vv_icmp_gt 33 19 hk dX11_feed_16 rfl rfl ?_ ?_
        · skip
          exact vv_le (ll_s rfl (ll_s rfl (ll_s rfl (ll_n (ll_n ll_0))))) (hk33 ())
        · skip
          refine vv_iload_n (i := 1) 20 hk dX11_feed_19 rfl rfl rfl ?_
          refine vv_bipush 22 hk dX11_feed_20 rfl bp_40 ?_
          refine vv_aload_n (i := 0) 23 hk dX11_feed_22 rfl rfl rfl ?_
          refine vv_getR 26 hk dX11_feed_23 rfl la_0 rfl ci_11 rfl fl_11_36 ?_
          refine vv_getI 29 hk he dX11_feed_26 rfl la_29 rfl ci_6 rfl fl_11_183 sd_29 ?_
          refine vv_isub 30 hk dX11_feed_29 rfl ?_
          refine vv_icmp_le 37 33 hk dX11_feed_30 rfl rfl ?_ ?_
          · skip
            refine vv_iconst 38 hk dX11_feed_37 rfl ic_0 ?_
            exact vv_le (ll_s rfl (ll_s rfl (ll_s rfl (ll_n (ll_n ll_0))))) (hk38 (0 : Int32))
          · skip
            exact vv_le (ll_s rfl (ll_s rfl (ll_s rfl (ll_n (ll_n ll_0))))) (hk33 ())
  · skip
    refine vv_icmp_ge 12 8 hk dX11_feed_5 rfl rfl ?_ ?_
    · skip
      refine vv_iconst 13 hk dX11_feed_12 rfl ic_0 ?_
      exact vv_le (ll_s rfl (ll_s rfl (ll_s rfl (ll_n (ll_n ll_0))))) (hk13 (0 : Int32))
    · skip
      refine vv_iconst 9 hk dX11_feed_8 rfl ic_1 ?_
      refine vv_goto 13 hk dX11_feed_9 rfl ?_
      exact vv_le (ll_s rfl (ll_s rfl (ll_s rfl (ll_n (ll_n ll_0))))) (hk13 (1 : Int32))
theorem c_X11_forbids (G : GT) (a1 : Int32) (a2 : Int32) (σ : Hp) : CtI G true yX11_forbids cX11_forbids 3 (some .int) 5 [(rf G 0), (.int a1), (.int a2)] (f_X11_forbids a1 a2 σ) σ := by
  refine ctI (L0 := [some (rf G 0), some (.int a1), some (.int a2)]) (by decide +kernel) rfl rfl rfl (fun κ hk he hret => ?_)
  have hk : KO G κ cX11_forbids RX11 5 := hk
  refine vv_iload_n (i := 1) 1 hk dX11_forbids_0 rfl rfl rfl ?_
  refine vv_iload_n (i := 2) 2 hk dX11_forbids_1 rfl rfl rfl ?_
  refine vv_jn (fun t1 => (σ, 22, [some (rf G 0), some (.int a1), some (.int a2)], [(.int t1), (.int a1)])) (fun t1 => ?_) (fun k22 hk22 => ?_)
  · skip
    refine vv_staIr (st := []) 25 hk he dX11_forbids_22 rfl ml_11_99 sf_X11_within (c_X11_within G a1 t1 σ) rfl rfl rfl rfl (fun v2 => ?_)
    refine vv_if_ne 34 28 hk dX11_forbids_25 rfl rfl ?_ ?_
    · skip
      refine vv_aload_n (i := 0) 29 hk dX11_forbids_28 rfl rfl rfl ?_
      refine vv_iconst 30 hk dX11_forbids_29 rfl ic_m1 ?_
      refine vv_invI (st := []) 33 hk he dX11_forbids_30 rfl ml_11_193 cf_X11_refuse la_0 ci_11 (c_X11_refuse G (-1 : Int32) σ) rfl rfl rfl rfl (fun v3 σ4 => ?_)
      exact hret _ _ _ _ dX11_forbids_33
    · skip
      refine vv_aload_n (i := 0) 35 hk dX11_forbids_34 rfl rfl rfl ?_
      refine vv_getR 38 hk dX11_forbids_35 rfl la_0 rfl ci_11 rfl fl_11_45 ?_
      refine vv_iload_n (i := 1) 39 hk dX11_forbids_38 rfl rfl rfl ?_
      refine vv_iload_n (i := 2) 40 hk dX11_forbids_39 rfl rfl rfl ?_
      refine vv_aload_n (i := 0) 41 hk dX11_forbids_40 rfl rfl rfl ?_
      refine vv_getR 44 hk dX11_forbids_41 rfl la_0 rfl ci_11 rfl fl_11_10 ?_
      refine vv_getI 47 hk he dX11_forbids_44 rfl la_1 rfl ci_5 rfl fl_11_162 sd_1 ?_
      refine vv_invIr (st := []) 50 hk he dX11_forbids_47 rfl ml_11_216 cf_X8_forbidder la_32 ci_8 (c_X8_forbidder G a1 a2 (σ.1 1 15) σ) rfl rfl rfl rfl (fun v5 => ?_)
      exact hret _ _ _ _ dX11_forbids_50
  · skip
    refine vv_if_eq 15 5 hk dX11_forbids_2 rfl rfl ?_ ?_
    · skip
      refine vv_aload_n (i := 0) 16 hk dX11_forbids_15 rfl rfl rfl ?_
      refine vv_getR 19 hk dX11_forbids_16 rfl la_0 rfl ci_11 rfl fl_11_10 ?_
      refine vv_getI 22 hk he dX11_forbids_19 rfl la_1 rfl ci_5 rfl fl_11_135 sd_1 ?_
      exact vv_le (ll_s rfl (ll_s rfl (ll_s rfl ll_0))) (hk22 (σ.1 1 6))
    · skip
      refine vv_aload_n (i := 0) 6 hk dX11_forbids_5 rfl rfl rfl ?_
      refine vv_getR 9 hk dX11_forbids_6 rfl la_0 rfl ci_11 rfl fl_11_10 ?_
      refine vv_getI 12 hk he dX11_forbids_9 rfl la_1 rfl ci_5 rfl fl_11_142 sd_1 ?_
      refine vv_goto 22 hk dX11_forbids_12 rfl ?_
      exact vv_le (ll_s rfl (ll_s rfl (ll_s rfl ll_0))) (hk22 (σ.1 1 11))
theorem c_X11_gas (G : GT) (a1 : Int32) (a2 : Int32) (a3 : Int32) (a4 : Int32) (σ : Hp) : CtI G true yX11_gas cX11_gas 8 (some .int) 2 [(rf G 0), (.int a1), (.int a2), (.int a3), (.int a4)] (f_X11_gas a1 a2 a3 a4 σ) σ := by
  refine ctI (L0 := [some (rf G 0), some (.int a1), some (.int a2), some (.int a3), some (.int a4), none, none, none]) (by decide +kernel) rfl rfl rfl (fun κ hk he hret => ?_)
  have hk : KO G κ cX11_gas RX11 2 := hk
  refine vv_iload_n (i := 1) 1 hk dX11_gas_0 rfl rfl rfl ?_
  refine vv_aload_n (i := 0) 2 hk dX11_gas_1 rfl rfl rfl ?_
  refine vv_getR 5 hk dX11_gas_2 rfl la_0 rfl ci_11 rfl fl_11_10 ?_
  refine vv_getI 8 hk he dX11_gas_5 rfl la_1 rfl ci_5 rfl fl_11_103 sd_1 ?_
  refine vv_staIr (st := []) 11 hk he dX11_gas_8 rfl ml_11_99 sf_X11_within (c_X11_within G a1 (σ.1 1 0) σ) rfl rfl rfl rfl (fun v1 => ?_)
  refine vv_jn (fun t2 => (σ, 27, [some (rf G 0), some (.int a1), some (.int a2), some (.int a3), some (.int a4), none, none, none], [(.int t2)])) (fun t2 => ?_) (fun k27 hk27 => ?_)
  · skip
    refine vv_istore 29 [some (rf G 0), some (.int a1), some (.int a2), some (.int a3), some (.int a4), some (.int t2), none, none] hk dX11_gas_27 rfl rfl rfl ?_
    refine vv_iload 31 hk dX11_gas_29 rfl rfl ?_
    refine vv_jn (fun t3 => (σ, 49, [some (rf G 0), some (.int a1), some (.int a2), some (.int a3), some (.int a4), some (.int t2), none, none], [(.int t3)])) (fun t3 => ?_) (fun k49 hk49 => ?_)
    · skip
      refine vv_istore 51 [some (rf G 0), some (.int a1), some (.int a2), some (.int a3), some (.int a4), some (.int t2), some (.int t3), none] hk dX11_gas_49 rfl rfl rfl ?_
      refine vv_aload_n (i := 0) 52 hk dX11_gas_51 rfl rfl rfl ?_
      refine vv_iload 54 hk dX11_gas_52 rfl rfl ?_
      refine vv_iconst 55 hk dX11_gas_54 rfl ic_0 ?_
      refine vv_iload_n (i := 3) 56 hk dX11_gas_55 rfl rfl rfl ?_
      refine vv_iconst 57 hk dX11_gas_56 rfl ic_1 ?_
      refine vv_jn (fun t4 => (σ, 65, [some (rf G 0), some (.int a1), some (.int a2), some (.int a3), some (.int a4), none, some (.int t3), none], [(.int t4), (.int (0 : Int32)), (.int t2), (rf G 0)])) (fun t4 => ?_) (fun k65 hk65 => ?_)
      · skip
        refine vv_iload_n (i := 3) 66 hk dX11_gas_65 rfl rfl rfl ?_
        refine vv_ldc 68 hk dX11_gas_66 rfl cw_11_125 ?_
        refine vv_jn (fun t5 => (σ, 89, [some (rf G 0), some (.int a1), some (.int a2), some (.int a3), some (.int a4), none, some (.int t3), none], [(.int t5), (.int t4), (.int (0 : Int32)), (.int t2), (rf G 0)])) (fun t5 => ?_) (fun k89 hk89 => ?_)
        · skip
          refine vv_invI (st := []) 92 hk he dX11_gas_89 rfl ml_11_107 cf_X11_refusal la_0 ci_11 (c_X11_refusal G t2 (0 : Int32) t4 t5 σ) rfl rfl rfl rfl (fun v6 σ7 => ?_)
          refine vv_istore 94 [some (rf G 0), some (.int a1), some (.int a2), some (.int a3), some (.int a4), none, some (.int t3), some (.int v6)] hk dX11_gas_92 rfl rfl rfl ?_
          refine vv_iload 96 hk dX11_gas_94 rfl rfl ?_
          refine vv_if_eq 102 99 hk dX11_gas_96 rfl rfl ?_ ?_
          · skip
            refine vv_aload_n (i := 0) 103 hk dX11_gas_102 rfl rfl rfl ?_
            refine vv_getR 106 hk dX11_gas_103 rfl la_0 rfl ci_11 rfl fl_11_29 ?_
            refine vv_invV (st := []) 109 hk he dX11_gas_106 rfl ml_11_111 cf_X0_forget la_25 ci_0 (c_X0_forget G σ7) rfl rfl rfl rfl (fun σ8 => ?_)
            refine vv_aload_n (i := 0) 110 hk dX11_gas_109 rfl rfl rfl ?_
            refine vv_getR 113 hk dX11_gas_110 rfl la_0 rfl ci_11 rfl fl_11_19 ?_
            refine vv_iload_n (i := 1) 114 hk dX11_gas_113 rfl rfl rfl ?_
            refine vv_iload_n (i := 2) 115 hk dX11_gas_114 rfl rfl rfl ?_
            refine vv_iload_n (i := 3) 116 hk dX11_gas_115 rfl rfl rfl ?_
            refine vv_iload 118 hk dX11_gas_116 rfl rfl ?_
            refine vv_invV (st := []) 121 hk he dX11_gas_118 rfl ml_11_128 cf_X4_tell la_13 ci_4 (c_X4_tell_13 G a1 a2 a3 a4 σ8) rfl rfl rfl rfl (fun σ9 => ?_)
            refine vv_iload 123 hk dX11_gas_121 rfl rfl ?_
            refine vv_iload_n (i := 3) 124 hk dX11_gas_123 rfl rfl rfl ?_
            refine vv_iadd 125 hk dX11_gas_124 rfl ?_
            exact hret _ _ _ _ dX11_gas_125
          · skip
            refine vv_iload 101 hk dX11_gas_99 rfl rfl ?_
            exact hret _ _ _ _ dX11_gas_101
        · skip
          refine vv_jn (fun t10 => (σ, 84, [some (rf G 0), some (.int a1), some (.int a2), some (.int a3), some (.int a4), none, some (.int t3), none], [(.int t4), (.int (0 : Int32)), (.int t2), (rf G 0)])) (fun t10 => ?_) (fun k84 hk84 => ?_)
          · skip
            refine vv_iconst 85 hk dX11_gas_84 rfl ic_1 ?_
            refine vv_goto 89 hk dX11_gas_85 rfl ?_
            exact vv_le (ll_s rfl (ll_s rfl (ll_s rfl (ll_s rfl (ll_s rfl (ll_n (ll_s rfl (ll_n ll_0)))))))) (hk89 (1 : Int32))
          · skip
            refine vv_icmp_gt 84 71 hk dX11_gas_68 rfl rfl ?_ ?_
            · skip
              exact vv_le (ll_s rfl (ll_s rfl (ll_s rfl (ll_s rfl (ll_s rfl (ll_n (ll_s rfl (ll_n ll_0)))))))) (hk84 ())
            · skip
              refine vv_iload 73 hk dX11_gas_71 rfl rfl ?_
              refine vv_i2l 74 hk dX11_gas_73 rfl ?_
              refine vv_iload_n (i := 3) 75 hk dX11_gas_74 rfl rfl rfl ?_
              refine vv_i2l 76 hk dX11_gas_75 rfl ?_
              refine vv_ladd 77 hk dX11_gas_76 rfl ?_
              refine vv_ldc2 80 hk dX11_gas_77 rfl cw_11_126 ?_
              refine vv_lcmp 81 hk dX11_gas_80 rfl ?_
              refine vv_if_le 88 84 hk dX11_gas_81 rfl rfl ?_ ?_
              · skip
                refine vv_iconst 89 hk dX11_gas_88 rfl ic_0 ?_
                exact vv_le (ll_s rfl (ll_s rfl (ll_s rfl (ll_s rfl (ll_s rfl (ll_n (ll_s rfl (ll_n ll_0)))))))) (hk89 (0 : Int32))
              · skip
                exact vv_le (ll_s rfl (ll_s rfl (ll_s rfl (ll_s rfl (ll_s rfl (ll_n (ll_s rfl (ll_n ll_0)))))))) (hk84 ())
      · skip
        refine vv_icmp_ge 64 60 hk dX11_gas_57 rfl rfl ?_ ?_
        · skip
          refine vv_iconst 65 hk dX11_gas_64 rfl ic_0 ?_
          exact vv_le (ll_s rfl (ll_s rfl (ll_s rfl (ll_s rfl (ll_s rfl (ll_n (ll_s rfl (ll_n ll_0)))))))) (hk65 (0 : Int32))
        · skip
          refine vv_iconst 61 hk dX11_gas_60 rfl ic_1 ?_
          refine vv_goto 65 hk dX11_gas_61 rfl ?_
          exact vv_le (ll_s rfl (ll_s rfl (ll_s rfl (ll_s rfl (ll_s rfl (ll_n (ll_s rfl (ll_n ll_0)))))))) (hk65 (1 : Int32))
    · skip
      refine vv_if_eq 38 34 hk dX11_gas_31 rfl rfl ?_ ?_
      · skip
        refine vv_aload_n (i := 0) 39 hk dX11_gas_38 rfl rfl rfl ?_
        refine vv_getR 42 hk dX11_gas_39 rfl la_0 rfl ci_11 rfl fl_11_19 ?_
        refine vv_iload_n (i := 1) 43 hk dX11_gas_42 rfl rfl rfl ?_
        refine vv_iload_n (i := 2) 44 hk dX11_gas_43 rfl rfl rfl ?_
        refine vv_iload 46 hk dX11_gas_44 rfl rfl ?_
        refine vv_invIr (st := []) 49 hk he dX11_gas_46 rfl ml_11_121 cf_X4_amount la_13 ci_4 (c_X4_amount_13 G a1 a2 a4 σ) rfl rfl rfl rfl (fun v11 => ?_)
        exact vv_le (ll_s rfl (ll_s rfl (ll_s rfl (ll_s rfl (ll_s rfl (ll_s rfl (ll_n (ll_n ll_0)))))))) (hk49 v11)
      · skip
        refine vv_iconst 35 hk dX11_gas_34 rfl ic_0 ?_
        refine vv_goto 49 hk dX11_gas_35 rfl ?_
        exact vv_le (ll_s rfl (ll_s rfl (ll_s rfl (ll_s rfl (ll_s rfl (ll_s rfl (ll_n (ll_n ll_0)))))))) (hk49 (0 : Int32))
  · skip
    refine vv_jn (fun t12 => (σ, 22, [some (rf G 0), some (.int a1), some (.int a2), some (.int a3), some (.int a4), none, none, none], [])) (fun t12 => ?_) (fun k22 hk22 => ?_)
    · skip
      refine vv_iconst 23 hk dX11_gas_22 rfl ic_1 ?_
      refine vv_goto 27 hk dX11_gas_23 rfl ?_
      exact vv_le (ll_s rfl (ll_s rfl (ll_s rfl (ll_s rfl (ll_s rfl (ll_n (ll_n (ll_n ll_0)))))))) (hk27 (1 : Int32))
    · skip
      refine vv_if_eq 22 14 hk dX11_gas_11 rfl rfl ?_ ?_
      · skip
        exact vv_le (ll_s rfl (ll_s rfl (ll_s rfl (ll_s rfl (ll_s rfl (ll_n (ll_n (ll_n ll_0)))))))) (hk22 ())
      · skip
        refine vv_iload_n (i := 2) 15 hk dX11_gas_14 rfl rfl rfl ?_
        refine vv_iconst 16 hk dX11_gas_15 rfl ic_3 ?_
        refine vv_staIr (st := []) 19 hk he dX11_gas_16 rfl ml_11_99 sf_X11_within (c_X11_within G a2 (3 : Int32) σ) rfl rfl rfl rfl (fun v13 => ?_)
        refine vv_if_ne 26 22 hk dX11_gas_19 rfl rfl ?_ ?_
        · skip
          exact vv_le (ll_s rfl (ll_s rfl (ll_s rfl (ll_s rfl (ll_s rfl (ll_n (ll_n (ll_n ll_0)))))))) (hk22 ())
        · skip
          refine vv_iconst 27 hk dX11_gas_26 rfl ic_0 ?_
          exact vv_le (ll_s rfl (ll_s rfl (ll_s rfl (ll_s rfl (ll_s rfl (ll_n (ll_n (ll_n ll_0)))))))) (hk27 (0 : Int32))
theorem c_X11_gives (G : GT) (a1 : Int32) (a2 : Int32) (a3 : Int32) (σ : Hp) : CtI G true yX11_gives cX11_gives 7 (some .int) 2 [(rf G 0), (.int a1), (.int a2), (.int a3)] (f_X11_gives a1 a2 a3 σ) σ := by
  refine ctI (L0 := [some (rf G 0), some (.int a1), some (.int a2), some (.int a3), none, none, none]) (by decide +kernel) rfl rfl rfl (fun κ hk he hret => ?_)
  have hk : KO G κ cX11_gives RX11 2 := hk
  refine vv_aload_n (i := 0) 1 hk dX11_gives_0 rfl rfl rfl ?_
  refine vv_iload_n (i := 1) 2 hk dX11_gives_1 rfl rfl rfl ?_
  refine vv_iconst 3 hk dX11_gives_2 rfl ic_4 ?_
  refine vv_staIr (st := [(rf G 0)]) 6 hk he dX11_gives_3 rfl ml_11_99 sf_X11_within (c_X11_within G a1 (4 : Int32) σ) rfl rfl rfl rfl (fun v1 => ?_)
  refine vv_jn (fun t2 => (σ, 23, [some (rf G 0), some (.int a1), some (.int a2), some (.int a3), none, none, none], [(.int t2), (rf G 0)])) (fun t2 => ?_) (fun k23 hk23 => ?_)
  · skip
    refine vv_iconst 24 hk dX11_gives_23 rfl ic_0 ?_
    refine vv_iload_n (i := 3) 25 hk dX11_gives_24 rfl rfl rfl ?_
    refine vv_jn (fun t3 => (σ, 33, [some (rf G 0), some (.int a1), some (.int a2), some (.int a3), none, none, none], [(.int t3), (.int (0 : Int32)), (.int t2), (rf G 0)])) (fun t3 => ?_) (fun k33 hk33 => ?_)
    · skip
      refine vv_iload_n (i := 3) 34 hk dX11_gives_33 rfl rfl rfl ?_
      refine vv_sipush 37 hk dX11_gives_34 rfl sp_500 ?_
      refine vv_jn (fun t4 => (σ, 45, [some (rf G 0), some (.int a1), some (.int a2), some (.int a3), none, none, none], [(.int t4), (.int t3), (.int (0 : Int32)), (.int t2), (rf G 0)])) (fun t4 => ?_) (fun k45 hk45 => ?_)
      · skip
        refine vv_invI (st := []) 48 hk he dX11_gives_45 rfl ml_11_107 cf_X11_refusal la_0 ci_11 (c_X11_refusal G t2 (0 : Int32) t3 t4 σ) rfl rfl rfl rfl (fun v5 σ6 => ?_)
        refine vv_istore 50 [some (rf G 0), some (.int a1), some (.int a2), some (.int a3), some (.int v5), none, none] hk dX11_gives_48 rfl rfl rfl ?_
        refine vv_iload 52 hk dX11_gives_50 rfl rfl ?_
        refine vv_if_eq 58 55 hk dX11_gives_52 rfl rfl ?_ ?_
        · skip
          refine vv_aload_n (i := 0) 59 hk dX11_gives_58 rfl rfl rfl ?_
          refine vv_getR 62 hk dX11_gives_59 rfl la_0 rfl ci_11 rfl fl_11_29 ?_
          refine vv_invV (st := []) 65 hk he dX11_gives_62 rfl ml_11_111 cf_X0_forget la_25 ci_0 (c_X0_forget G σ6) rfl rfl rfl rfl (fun σ7 => ?_)
          refine vv_iload_n (i := 1) 66 hk dX11_gives_65 rfl rfl rfl ?_
          refine vv_bipush 68 hk dX11_gives_66 rfl bp_10 ?_
          refine vv_imul 69 hk dX11_gives_68 rfl ?_
          refine vv_iload_n (i := 2) 70 hk dX11_gives_69 rfl rfl rfl ?_
          refine vv_iadd 71 hk dX11_gives_70 rfl ?_
          refine vv_istoreL 73 (fun x8 => [some (rf G 0), some (.int a1), some (.int a2), some (.int a3), some (.int v5), some (.int x8), none]) hk dX11_gives_71 rfl rfl (fun _ => rfl) (fun x8 => ?_)
          refine vv_aload_n (i := 0) 74 hk dX11_gives_73 rfl rfl rfl ?_
          refine vv_getR 77 hk dX11_gives_74 rfl la_0 rfl ci_11 rfl fl_11_10 ?_
          refine vv_getR 80 hk dX11_gives_77 rfl la_1 rfl ci_5 rfl fl_11_132 ?_
          refine vv_iload 82 hk dX11_gives_80 rfl rfl ?_
          refine vv_iald 83 hk he dX11_gives_82 rfl la_5 sd_5 (fun v9 => ?_)
          refine vv_istore 85 [some (rf G 0), some (.int a1), some (.int a2), some (.int a3), some (.int v5), some (.int x8), some (.int v9)] hk dX11_gives_83 rfl rfl rfl ?_
          refine vv_aload_n (i := 0) 86 hk dX11_gives_85 rfl rfl rfl ?_
          refine vv_getR 89 hk dX11_gives_86 rfl la_0 rfl ci_11 rfl fl_11_10 ?_
          refine vv_getR 92 hk dX11_gives_89 rfl la_1 rfl ci_5 rfl fl_11_132 ?_
          refine vv_iload 94 hk dX11_gives_92 rfl rfl ?_
          refine vv_iload_n (i := 3) 95 hk dX11_gives_94 rfl rfl rfl ?_
          refine vv_iast 96 hk he dX11_gives_95 rfl la_5 sd_5 (fun σ10 => ?_)
          refine vv_iload 98 hk dX11_gives_96 rfl rfl ?_
          exact hret _ _ _ _ dX11_gives_98
        · skip
          refine vv_iload 57 hk dX11_gives_55 rfl rfl ?_
          exact hret _ _ _ _ dX11_gives_57
      · skip
        refine vv_icmp_le 44 40 hk dX11_gives_37 rfl rfl ?_ ?_
        · skip
          refine vv_iconst 45 hk dX11_gives_44 rfl ic_0 ?_
          exact vv_le (ll_s rfl (ll_s rfl (ll_s rfl (ll_s rfl (ll_n (ll_n (ll_n ll_0))))))) (hk45 (0 : Int32))
        · skip
          refine vv_iconst 41 hk dX11_gives_40 rfl ic_1 ?_
          refine vv_goto 45 hk dX11_gives_41 rfl ?_
          exact vv_le (ll_s rfl (ll_s rfl (ll_s rfl (ll_s rfl (ll_n (ll_n (ll_n ll_0))))))) (hk45 (1 : Int32))
    · skip
      refine vv_if_ge 32 28 hk dX11_gives_25 rfl rfl ?_ ?_
      · skip
        refine vv_iconst 33 hk dX11_gives_32 rfl ic_0 ?_
        exact vv_le (ll_s rfl (ll_s rfl (ll_s rfl (ll_s rfl (ll_n (ll_n (ll_n ll_0))))))) (hk33 (0 : Int32))
      · skip
        refine vv_iconst 29 hk dX11_gives_28 rfl ic_1 ?_
        refine vv_goto 33 hk dX11_gives_29 rfl ?_
        exact vv_le (ll_s rfl (ll_s rfl (ll_s rfl (ll_s rfl (ll_n (ll_n (ll_n ll_0))))))) (hk33 (1 : Int32))
  · skip
    refine vv_jn (fun t11 => (σ, 18, [some (rf G 0), some (.int a1), some (.int a2), some (.int a3), none, none, none], [(rf G 0)])) (fun t11 => ?_) (fun k18 hk18 => ?_)
    · skip
      refine vv_iconst 19 hk dX11_gives_18 rfl ic_1 ?_
      refine vv_goto 23 hk dX11_gives_19 rfl ?_
      exact vv_le (ll_s rfl (ll_s rfl (ll_s rfl (ll_s rfl (ll_n (ll_n (ll_n ll_0))))))) (hk23 (1 : Int32))
    · skip
      refine vv_if_eq 18 9 hk dX11_gives_6 rfl rfl ?_ ?_
      · skip
        exact vv_le (ll_s rfl (ll_s rfl (ll_s rfl (ll_s rfl (ll_n (ll_n (ll_n ll_0))))))) (hk18 ())
      · skip
        refine vv_iload_n (i := 2) 10 hk dX11_gives_9 rfl rfl rfl ?_
        refine vv_bipush 12 hk dX11_gives_10 rfl bp_10 ?_
        refine vv_staIr (st := [(rf G 0)]) 15 hk he dX11_gives_12 rfl ml_11_99 sf_X11_within (c_X11_within G a2 (10 : Int32) σ) rfl rfl rfl rfl (fun v12 => ?_)
        refine vv_if_ne 22 18 hk dX11_gives_15 rfl rfl ?_ ?_
        · skip
          exact vv_le (ll_s rfl (ll_s rfl (ll_s rfl (ll_s rfl (ll_n (ll_n (ll_n ll_0))))))) (hk18 ())
        · skip
          refine vv_iconst 23 hk dX11_gives_22 rfl ic_0 ?_
          exact vv_le (ll_s rfl (ll_s rfl (ll_s rfl (ll_s rfl (ll_n (ll_n (ll_n ll_0))))))) (hk23 (0 : Int32))
theorem c_X11_hunt (G : GT) (a1 : Int32) (σ : Hp) : CtI G true yX11_hunt cX11_hunt 2 (some .int) 3 [(rf G 0), (.int a1)] (f_X11_hunt a1 σ) σ := by
  refine ctI (L0 := [some (rf G 0), some (.int a1)]) (by decide +kernel) rfl rfl rfl (fun κ hk he hret => ?_)
  have hk : KO G κ cX11_hunt RX11 3 := hk
  refine vv_iload_n (i := 1) 1 hk dX11_hunt_0 rfl rfl rfl ?_
  refine vv_iconst 2 hk dX11_hunt_1 rfl ic_4 ?_
  refine vv_staIr (st := []) 5 hk he dX11_hunt_2 rfl ml_11_99 sf_X11_within (c_X11_within G a1 (4 : Int32) σ) rfl rfl rfl rfl (fun v1 => ?_)
  refine vv_jn (fun t2 => (t2.2, 25, [some (rf G 0), none], [(.int t2.1)])) (fun t2 => ?_) (fun k25 hk25 => ?_)
  · skip
    exact hret _ _ _ _ dX11_hunt_25
  · skip
    refine vv_if_eq 19 8 hk dX11_hunt_5 rfl rfl ?_ ?_
    · skip
      refine vv_aload_n (i := 0) 20 hk dX11_hunt_19 rfl rfl rfl ?_
      refine vv_bipush 22 hk dX11_hunt_20 rfl bp_m2 ?_
      refine vv_invI (st := []) 25 hk he dX11_hunt_22 rfl ml_11_193 cf_X11_refuse la_0 ci_11 (c_X11_refuse G (-2 : Int32) σ) rfl rfl rfl rfl (fun v3 σ4 => ?_)
      exact vv_le (ll_s rfl (ll_n ll_0)) (hk25 (v3, σ4))
    · skip
      refine vv_aload_n (i := 0) 9 hk dX11_hunt_8 rfl rfl rfl ?_
      refine vv_getR 12 hk dX11_hunt_9 rfl la_0 rfl ci_11 rfl fl_11_91 ?_
      refine vv_iload_n (i := 1) 13 hk dX11_hunt_12 rfl rfl rfl ?_
      refine vv_invI (st := []) 16 hk he dX11_hunt_13 rfl ml_11_296 cf_X9_found la_77 ci_9 (c_X9_found G a1 σ) rfl rfl rfl rfl (fun v5 σ6 => ?_)
      refine vv_goto 25 hk dX11_hunt_16 rfl ?_
      exact vv_le (ll_s rfl (ll_n ll_0)) (hk25 (v5, σ6))
theorem c_X11_in (G : GT) (a1 : Int32) (a2 : Int32) (a3 : Int32) (σ : Hp) : CtI G true yX11_in cX11_in 5 (some .int) 2 [(rf G 0), (.int a1), (.int a2), (.int a3)] (f_X11_in a1 a2 a3 σ) σ := by
  refine ctI (L0 := [some (rf G 0), some (.int a1), some (.int a2), some (.int a3), none]) (by decide +kernel) rfl rfl rfl (fun κ hk he hret => ?_)
  have hk : KO G κ cX11_in RX11 2 := hk
  refine vv_aload_n (i := 0) 1 hk dX11_in_0 rfl rfl rfl ?_
  refine vv_iload_n (i := 1) 2 hk dX11_in_1 rfl rfl rfl ?_
  refine vv_aload_n (i := 0) 3 hk dX11_in_2 rfl rfl rfl ?_
  refine vv_getR 6 hk dX11_in_3 rfl la_0 rfl ci_11 rfl fl_11_10 ?_
  refine vv_getI 9 hk he dX11_in_6 rfl la_1 rfl ci_5 rfl fl_11_103 sd_1 ?_
  refine vv_staIr (st := [(rf G 0)]) 12 hk he dX11_in_9 rfl ml_11_99 sf_X11_within (c_X11_within G a1 (σ.1 1 0) σ) rfl rfl rfl rfl (fun v1 => ?_)
  refine vv_jn (fun t2 => (σ, 28, [some (rf G 0), some (.int a1), some (.int a2), some (.int a3), none], [(.int t2), (rf G 0)])) (fun t2 => ?_) (fun k28 hk28 => ?_)
  · skip
    refine vv_iload_n (i := 3) 29 hk dX11_in_28 rfl rfl rfl ?_
    refine vv_iconst 30 hk dX11_in_29 rfl ic_3 ?_
    refine vv_staIr (st := [(.int t2), (rf G 0)]) 33 hk he dX11_in_30 rfl ml_11_99 sf_X11_within (c_X11_within G a3 (3 : Int32) σ) rfl rfl rfl rfl (fun v3 => ?_)
    refine vv_jn (fun t4 => (σ, 41, [some (rf G 0), some (.int a1), some (.int a2), some (.int a3), none], [(.int t4), (.int t2), (rf G 0)])) (fun t4 => ?_) (fun k41 hk41 => ?_)
    · skip
      refine vv_iconst 42 hk dX11_in_41 rfl ic_0 ?_
      refine vv_iconst 43 hk dX11_in_42 rfl ic_0 ?_
      refine vv_invI (st := []) 46 hk he dX11_in_43 rfl ml_11_107 cf_X11_refusal la_0 ci_11 (c_X11_refusal G t2 t4 (0 : Int32) (0 : Int32) σ) rfl rfl rfl rfl (fun v5 σ6 => ?_)
      refine vv_istore 48 [some (rf G 0), some (.int a1), some (.int a2), some (.int a3), some (.int v5)] hk dX11_in_46 rfl rfl rfl ?_
      refine vv_iload 50 hk dX11_in_48 rfl rfl ?_
      refine vv_if_eq 56 53 hk dX11_in_50 rfl rfl ?_ ?_
      · skip
        refine vv_iload_n (i := 3) 57 hk dX11_in_56 rfl rfl rfl ?_
        refine vv_iconst 58 hk dX11_in_57 rfl ic_2 ?_
        refine vv_jn (fun t7 => (σ6, 95, [some (rf G 0), none, none, none, none], [(.int t7)])) (fun t7 => ?_) (fun k95 hk95 => ?_)
        · skip
          exact hret _ _ _ _ dX11_in_95
        · skip
          refine vv_icmp_ne 76 61 hk dX11_in_58 rfl rfl ?_ ?_
          · skip
            refine vv_aload_n (i := 0) 62 hk dX11_in_61 rfl rfl rfl ?_
            refine vv_getR 65 hk dX11_in_62 rfl la_0 rfl ci_11 rfl fl_11_19 ?_
            refine vv_aload_n (i := 0) 66 hk dX11_in_65 rfl rfl rfl ?_
            refine vv_getR 69 hk dX11_in_66 rfl la_0 rfl ci_11 rfl fl_11_10 ?_
            refine vv_iload_n (i := 1) 70 hk dX11_in_69 rfl rfl rfl ?_
            refine vv_invIr (st := []) 73 hk he dX11_in_70 rfl ml_11_158 cf_X4_push la_13 ci_4 (c_X4_push_13 G a1 σ6) rfl rfl rfl rfl (fun v8 => ?_)
            refine vv_goto 95 hk dX11_in_73 rfl ?_
            exact vv_le (ll_s rfl (ll_n (ll_n (ll_n (ll_n ll_0))))) (hk95 v8)
          · skip
            refine vv_aload_n (i := 0) 77 hk dX11_in_76 rfl rfl rfl ?_
            refine vv_getR 80 hk dX11_in_77 rfl la_0 rfl ci_11 rfl fl_11_19 ?_
            refine vv_iload_n (i := 1) 81 hk dX11_in_80 rfl rfl rfl ?_
            refine vv_iload_n (i := 2) 82 hk dX11_in_81 rfl rfl rfl ?_
            refine vv_iload_n (i := 3) 83 hk dX11_in_82 rfl rfl rfl ?_
            refine vv_iconst 84 hk dX11_in_83 rfl ic_1 ?_
            refine vv_jn (fun t9 => (σ6, 92, [some (rf G 0), none, none, none, none], [(.int t9), (.int a2), (.int a1), (rf G 13)])) (fun t9 => ?_) (fun k92 hk92 => ?_)
            · skip
              refine vv_invIr (st := []) 95 hk he dX11_in_92 rfl ml_11_121 cf_X4_amount la_13 ci_4 (c_X4_amount_13 G a1 a2 t9 σ6) rfl rfl rfl rfl (fun v10 => ?_)
              exact vv_le (ll_s rfl (ll_n (ll_n (ll_n (ll_n ll_0))))) (hk95 v10)
            · skip
              refine vv_icmp_ne 91 87 hk dX11_in_84 rfl rfl ?_ ?_
              · skip
                refine vv_iconst 88 hk dX11_in_87 rfl ic_1 ?_
                refine vv_goto 92 hk dX11_in_88 rfl ?_
                exact vv_le (ll_s rfl (ll_n (ll_n (ll_n (ll_n ll_0))))) (hk92 (1 : Int32))
              · skip
                refine vv_iconst 92 hk dX11_in_91 rfl ic_0 ?_
                exact vv_le (ll_s rfl (ll_n (ll_n (ll_n (ll_n ll_0))))) (hk92 (0 : Int32))
      · skip
        refine vv_iload 55 hk dX11_in_53 rfl rfl ?_
        exact hret _ _ _ _ dX11_in_55
    · skip
      refine vv_if_ne 40 36 hk dX11_in_33 rfl rfl ?_ ?_
      · skip
        refine vv_iconst 37 hk dX11_in_36 rfl ic_1 ?_
        refine vv_goto 41 hk dX11_in_37 rfl ?_
        exact vv_le (ll_s rfl (ll_s rfl (ll_s rfl (ll_s rfl (ll_n ll_0))))) (hk41 (1 : Int32))
      · skip
        refine vv_iconst 41 hk dX11_in_40 rfl ic_0 ?_
        exact vv_le (ll_s rfl (ll_s rfl (ll_s rfl (ll_s rfl (ll_n ll_0))))) (hk41 (0 : Int32))
  · skip
    refine vv_jn (fun t11 => (σ, 23, [some (rf G 0), some (.int a1), some (.int a2), some (.int a3), none], [(rf G 0)])) (fun t11 => ?_) (fun k23 hk23 => ?_)
    · skip
      refine vv_iconst 24 hk dX11_in_23 rfl ic_1 ?_
      refine vv_goto 28 hk dX11_in_24 rfl ?_
      exact vv_le (ll_s rfl (ll_s rfl (ll_s rfl (ll_s rfl (ll_n ll_0))))) (hk28 (1 : Int32))
    · skip
      refine vv_if_eq 23 15 hk dX11_in_12 rfl rfl ?_ ?_
      · skip
        exact vv_le (ll_s rfl (ll_s rfl (ll_s rfl (ll_s rfl (ll_n ll_0))))) (hk23 ())
      · skip
        refine vv_iload_n (i := 2) 16 hk dX11_in_15 rfl rfl rfl ?_
        refine vv_iconst 17 hk dX11_in_16 rfl ic_3 ?_
        refine vv_staIr (st := [(rf G 0)]) 20 hk he dX11_in_17 rfl ml_11_99 sf_X11_within (c_X11_within G a2 (3 : Int32) σ) rfl rfl rfl rfl (fun v12 => ?_)
        refine vv_if_ne 27 23 hk dX11_in_20 rfl rfl ?_ ?_
        · skip
          exact vv_le (ll_s rfl (ll_s rfl (ll_s rfl (ll_s rfl (ll_n ll_0))))) (hk23 ())
        · skip
          refine vv_iconst 28 hk dX11_in_27 rfl ic_0 ?_
          exact vv_le (ll_s rfl (ll_s rfl (ll_s rfl (ll_s rfl (ll_n ll_0))))) (hk28 (0 : Int32))
theorem c_X11_late (G : GT) (a1 : Int32) (a2 : Int32) (σ : Hp) : CtI G true yX11_late cX11_late 5 (some .int) 2 [(rf G 0), (.int a1), (.int a2)] (f_X11_late a1 a2 σ) σ := by
  refine ctI (L0 := [some (rf G 0), some (.int a1), some (.int a2), none, none]) (by decide +kernel) rfl rfl rfl (fun κ hk he hret => ?_)
  have hk : KO G κ cX11_late RX11 2 := hk
  refine vv_aload_n (i := 0) 1 hk dX11_late_0 rfl rfl rfl ?_
  refine vv_iload_n (i := 1) 2 hk dX11_late_1 rfl rfl rfl ?_
  refine vv_bipush 4 hk dX11_late_2 rfl bp_8 ?_
  refine vv_staIr (st := [(rf G 0)]) 7 hk he dX11_late_4 rfl ml_11_99 sf_X11_within (c_X11_within G a1 (8 : Int32) σ) rfl rfl rfl rfl (fun v1 => ?_)
  refine vv_jn (fun t2 => (σ, 15, [some (rf G 0), some (.int a1), some (.int a2), none, none], [(.int t2), (rf G 0)])) (fun t2 => ?_) (fun k15 hk15 => ?_)
  · skip
    refine vv_iconst 16 hk dX11_late_15 rfl ic_0 ?_
    refine vv_iload_n (i := 2) 17 hk dX11_late_16 rfl rfl rfl ?_
    refine vv_jn (fun t3 => (σ, 25, [some (rf G 0), some (.int a1), some (.int a2), none, none], [(.int t3), (.int (0 : Int32)), (.int t2), (rf G 0)])) (fun t3 => ?_) (fun k25 hk25 => ?_)
    · skip
      refine vv_iload_n (i := 2) 26 hk dX11_late_25 rfl rfl rfl ?_
      refine vv_bipush 28 hk dX11_late_26 rfl bp_20 ?_
      refine vv_jn (fun t4 => (σ, 36, [some (rf G 0), some (.int a1), some (.int a2), none, none], [(.int t4), (.int t3), (.int (0 : Int32)), (.int t2), (rf G 0)])) (fun t4 => ?_) (fun k36 hk36 => ?_)
      · skip
        refine vv_invI (st := []) 39 hk he dX11_late_36 rfl ml_11_107 cf_X11_refusal la_0 ci_11 (c_X11_refusal G t2 (0 : Int32) t3 t4 σ) rfl rfl rfl rfl (fun v5 σ6 => ?_)
        refine vv_istore_n (i := 3) 40 [some (rf G 0), some (.int a1), some (.int a2), some (.int v5), none] hk dX11_late_39 rfl rfl rfl rfl ?_
        refine vv_iload_n (i := 3) 41 hk dX11_late_40 rfl rfl rfl ?_
        refine vv_if_eq 46 44 hk dX11_late_41 rfl rfl ?_ ?_
        · skip
          refine vv_aload_n (i := 0) 47 hk dX11_late_46 rfl rfl rfl ?_
          refine vv_getR 50 hk dX11_late_47 rfl la_0 rfl ci_11 rfl fl_11_91 ?_
          refine vv_getR 53 hk dX11_late_50 rfl la_77 rfl ci_9 rfl fl_11_280 ?_
          refine vv_iload_n (i := 1) 54 hk dX11_late_53 rfl rfl rfl ?_
          refine vv_iald 55 hk he dX11_late_54 rfl la_78 sd_78 (fun v7 => ?_)
          refine vv_istore 57 [some (rf G 0), some (.int a1), some (.int a2), some (.int v5), some (.int v7)] hk dX11_late_55 rfl rfl rfl ?_
          refine vv_aload_n (i := 0) 58 hk dX11_late_57 rfl rfl rfl ?_
          refine vv_getR 61 hk dX11_late_58 rfl la_0 rfl ci_11 rfl fl_11_91 ?_
          refine vv_getR 64 hk dX11_late_61 rfl la_77 rfl ci_9 rfl fl_11_280 ?_
          refine vv_iload_n (i := 1) 65 hk dX11_late_64 rfl rfl rfl ?_
          refine vv_iload_n (i := 2) 66 hk dX11_late_65 rfl rfl rfl ?_
          refine vv_iast 67 hk he dX11_late_66 rfl la_78 sd_78 (fun σ8 => ?_)
          refine vv_iload 69 hk dX11_late_67 rfl rfl ?_
          exact hret _ _ _ _ dX11_late_69
        · skip
          refine vv_iload_n (i := 3) 45 hk dX11_late_44 rfl rfl rfl ?_
          exact hret _ _ _ _ dX11_late_45
      · skip
        refine vv_icmp_le 35 31 hk dX11_late_28 rfl rfl ?_ ?_
        · skip
          refine vv_iconst 36 hk dX11_late_35 rfl ic_0 ?_
          exact vv_le (ll_s rfl (ll_s rfl (ll_s rfl (ll_n (ll_n ll_0))))) (hk36 (0 : Int32))
        · skip
          refine vv_iconst 32 hk dX11_late_31 rfl ic_1 ?_
          refine vv_goto 36 hk dX11_late_32 rfl ?_
          exact vv_le (ll_s rfl (ll_s rfl (ll_s rfl (ll_n (ll_n ll_0))))) (hk36 (1 : Int32))
    · skip
      refine vv_if_ge 24 20 hk dX11_late_17 rfl rfl ?_ ?_
      · skip
        refine vv_iconst 25 hk dX11_late_24 rfl ic_0 ?_
        exact vv_le (ll_s rfl (ll_s rfl (ll_s rfl (ll_n (ll_n ll_0))))) (hk25 (0 : Int32))
      · skip
        refine vv_iconst 21 hk dX11_late_20 rfl ic_1 ?_
        refine vv_goto 25 hk dX11_late_21 rfl ?_
        exact vv_le (ll_s rfl (ll_s rfl (ll_s rfl (ll_n (ll_n ll_0))))) (hk25 (1 : Int32))
  · skip
    refine vv_if_ne 14 10 hk dX11_late_7 rfl rfl ?_ ?_
    · skip
      refine vv_iconst 11 hk dX11_late_10 rfl ic_1 ?_
      refine vv_goto 15 hk dX11_late_11 rfl ?_
      exact vv_le (ll_s rfl (ll_s rfl (ll_s rfl (ll_n (ll_n ll_0))))) (hk15 (1 : Int32))
    · skip
      refine vv_iconst 15 hk dX11_late_14 rfl ic_0 ?_
      exact vv_le (ll_s rfl (ll_s rfl (ll_s rfl (ll_n (ll_n ll_0))))) (hk15 (0 : Int32))
theorem c_X11_leak (G : GT) (a1 : Int32) (a2 : Int32) (a3 : Int32) (σ : Hp) : CtI G true yX11_leak cX11_leak 7 (some .int) 2 [(rf G 0), (.int a1), (.int a2), (.int a3)] (f_X11_leak a1 a2 a3 σ) σ := by
  refine ctI (L0 := [some (rf G 0), some (.int a1), some (.int a2), some (.int a3), none, none, none]) (by decide +kernel) rfl rfl rfl (fun κ hk he hret => ?_)
  have hk : KO G κ cX11_leak RX11 2 := hk
  refine vv_aload_n (i := 0) 1 hk dX11_leak_0 rfl rfl rfl ?_
  refine vv_iload_n (i := 1) 2 hk dX11_leak_1 rfl rfl rfl ?_
  refine vv_aload_n (i := 0) 3 hk dX11_leak_2 rfl rfl rfl ?_
  refine vv_getR 6 hk dX11_leak_3 rfl la_0 rfl ci_11 rfl fl_11_10 ?_
  refine vv_getI 9 hk he dX11_leak_6 rfl la_1 rfl ci_5 rfl fl_11_103 sd_1 ?_
  refine vv_staIr (st := [(rf G 0)]) 12 hk he dX11_leak_9 rfl ml_11_99 sf_X11_within (c_X11_within G a1 (σ.1 1 0) σ) rfl rfl rfl rfl (fun v1 => ?_)
  refine vv_jn (fun t2 => (σ, 28, [some (rf G 0), some (.int a1), some (.int a2), some (.int a3), none, none, none], [(.int t2), (rf G 0)])) (fun t2 => ?_) (fun k28 hk28 => ?_)
  · skip
    refine vv_iconst 29 hk dX11_leak_28 rfl ic_0 ?_
    refine vv_iload_n (i := 3) 30 hk dX11_leak_29 rfl rfl rfl ?_
    refine vv_jn (fun t3 => (σ, 38, [some (rf G 0), some (.int a1), some (.int a2), some (.int a3), none, none, none], [(.int t3), (.int (0 : Int32)), (.int t2), (rf G 0)])) (fun t3 => ?_) (fun k38 hk38 => ?_)
    · skip
      refine vv_iload_n (i := 3) 39 hk dX11_leak_38 rfl rfl rfl ?_
      refine vv_sipush 42 hk dX11_leak_39 rfl sp_999 ?_
      refine vv_jn (fun t4 => (σ, 50, [some (rf G 0), some (.int a1), some (.int a2), some (.int a3), none, none, none], [(.int t4), (.int t3), (.int (0 : Int32)), (.int t2), (rf G 0)])) (fun t4 => ?_) (fun k50 hk50 => ?_)
      · skip
        refine vv_invI (st := []) 53 hk he dX11_leak_50 rfl ml_11_107 cf_X11_refusal la_0 ci_11 (c_X11_refusal G t2 (0 : Int32) t3 t4 σ) rfl rfl rfl rfl (fun v5 σ6 => ?_)
        refine vv_istore 55 [some (rf G 0), some (.int a1), some (.int a2), some (.int a3), some (.int v5), none, none] hk dX11_leak_53 rfl rfl rfl ?_
        refine vv_iload 57 hk dX11_leak_55 rfl rfl ?_
        refine vv_if_eq 63 60 hk dX11_leak_57 rfl rfl ?_ ?_
        · skip
          refine vv_aload_n (i := 0) 64 hk dX11_leak_63 rfl rfl rfl ?_
          refine vv_getR 67 hk dX11_leak_64 rfl la_0 rfl ci_11 rfl fl_11_29 ?_
          refine vv_invV (st := []) 70 hk he dX11_leak_67 rfl ml_11_111 cf_X0_forget la_25 ci_0 (c_X0_forget G σ6) rfl rfl rfl rfl (fun σ7 => ?_)
          refine vv_iload_n (i := 1) 71 hk dX11_leak_70 rfl rfl rfl ?_
          refine vv_iconst 72 hk dX11_leak_71 rfl ic_3 ?_
          refine vv_imul 73 hk dX11_leak_72 rfl ?_
          refine vv_iload_n (i := 2) 74 hk dX11_leak_73 rfl rfl rfl ?_
          refine vv_iadd 75 hk dX11_leak_74 rfl ?_
          refine vv_istoreL 77 (fun x8 => [some (rf G 0), some (.int a1), some (.int a2), some (.int a3), some (.int v5), some (.int x8), none]) hk dX11_leak_75 rfl rfl (fun _ => rfl) (fun x8 => ?_)
          refine vv_aload_n (i := 0) 78 hk dX11_leak_77 rfl rfl rfl ?_
          refine vv_getR 81 hk dX11_leak_78 rfl la_0 rfl ci_11 rfl fl_11_10 ?_
          refine vv_getR 84 hk dX11_leak_81 rfl la_1 rfl ci_5 rfl fl_11_149 ?_
          refine vv_iload 86 hk dX11_leak_84 rfl rfl ?_
          refine vv_iald 87 hk he dX11_leak_86 rfl la_6 sd_6 (fun v9 => ?_)
          refine vv_istore 89 [some (rf G 0), some (.int a1), some (.int a2), some (.int a3), some (.int v5), some (.int x8), some (.int v9)] hk dX11_leak_87 rfl rfl rfl ?_
          refine vv_aload_n (i := 0) 90 hk dX11_leak_89 rfl rfl rfl ?_
          refine vv_getR 93 hk dX11_leak_90 rfl la_0 rfl ci_11 rfl fl_11_10 ?_
          refine vv_getR 96 hk dX11_leak_93 rfl la_1 rfl ci_5 rfl fl_11_149 ?_
          refine vv_iload 98 hk dX11_leak_96 rfl rfl ?_
          refine vv_iload_n (i := 3) 99 hk dX11_leak_98 rfl rfl rfl ?_
          refine vv_iast 100 hk he dX11_leak_99 rfl la_6 sd_6 (fun σ10 => ?_)
          refine vv_iload 102 hk dX11_leak_100 rfl rfl ?_
          exact hret _ _ _ _ dX11_leak_102
        · skip
          refine vv_iload 62 hk dX11_leak_60 rfl rfl ?_
          exact hret _ _ _ _ dX11_leak_62
      · skip
        refine vv_icmp_le 49 45 hk dX11_leak_42 rfl rfl ?_ ?_
        · skip
          refine vv_iconst 50 hk dX11_leak_49 rfl ic_0 ?_
          exact vv_le (ll_s rfl (ll_s rfl (ll_s rfl (ll_s rfl (ll_n (ll_n (ll_n ll_0))))))) (hk50 (0 : Int32))
        · skip
          refine vv_iconst 46 hk dX11_leak_45 rfl ic_1 ?_
          refine vv_goto 50 hk dX11_leak_46 rfl ?_
          exact vv_le (ll_s rfl (ll_s rfl (ll_s rfl (ll_s rfl (ll_n (ll_n (ll_n ll_0))))))) (hk50 (1 : Int32))
    · skip
      refine vv_if_ge 37 33 hk dX11_leak_30 rfl rfl ?_ ?_
      · skip
        refine vv_iconst 38 hk dX11_leak_37 rfl ic_0 ?_
        exact vv_le (ll_s rfl (ll_s rfl (ll_s rfl (ll_s rfl (ll_n (ll_n (ll_n ll_0))))))) (hk38 (0 : Int32))
      · skip
        refine vv_iconst 34 hk dX11_leak_33 rfl ic_1 ?_
        refine vv_goto 38 hk dX11_leak_34 rfl ?_
        exact vv_le (ll_s rfl (ll_s rfl (ll_s rfl (ll_s rfl (ll_n (ll_n (ll_n ll_0))))))) (hk38 (1 : Int32))
  · skip
    refine vv_jn (fun t11 => (σ, 23, [some (rf G 0), some (.int a1), some (.int a2), some (.int a3), none, none, none], [(rf G 0)])) (fun t11 => ?_) (fun k23 hk23 => ?_)
    · skip
      refine vv_iconst 24 hk dX11_leak_23 rfl ic_1 ?_
      refine vv_goto 28 hk dX11_leak_24 rfl ?_
      exact vv_le (ll_s rfl (ll_s rfl (ll_s rfl (ll_s rfl (ll_n (ll_n (ll_n ll_0))))))) (hk28 (1 : Int32))
    · skip
      refine vv_if_eq 23 15 hk dX11_leak_12 rfl rfl ?_ ?_
      · skip
        exact vv_le (ll_s rfl (ll_s rfl (ll_s rfl (ll_s rfl (ll_n (ll_n (ll_n ll_0))))))) (hk23 ())
      · skip
        refine vv_iload_n (i := 2) 16 hk dX11_leak_15 rfl rfl rfl ?_
        refine vv_iconst 17 hk dX11_leak_16 rfl ic_3 ?_
        refine vv_staIr (st := [(rf G 0)]) 20 hk he dX11_leak_17 rfl ml_11_99 sf_X11_within (c_X11_within G a2 (3 : Int32) σ) rfl rfl rfl rfl (fun v12 => ?_)
        refine vv_if_ne 27 23 hk dX11_leak_20 rfl rfl ?_ ?_
        · skip
          exact vv_le (ll_s rfl (ll_s rfl (ll_s rfl (ll_s rfl (ll_n (ll_n (ll_n ll_0))))))) (hk23 ())
        · skip
          refine vv_iconst 28 hk dX11_leak_27 rfl ic_0 ?_
          exact vv_le (ll_s rfl (ll_s rfl (ll_s rfl (ll_s rfl (ll_n (ll_n (ll_n ll_0))))))) (hk28 (0 : Int32))
theorem c_X11_load (G : GT) (a1 : Int32) (a2 : Int32) (σ : Hp) : CtI G true yX11_load cX11_load 4 (some .int) 4 [(rf G 0), (.int a1), (.int a2)] (f_X11_load a1 a2 σ) σ := by
  refine ctI (L0 := [some (rf G 0), some (.int a1), some (.int a2), none]) (by decide +kernel) rfl rfl rfl (fun κ hk he hret => ?_)
  have hk : KO G κ cX11_load RX11 4 := hk
  refine vv_aload_n (i := 0) 1 hk dX11_load_0 rfl rfl rfl ?_
  refine vv_iload_n (i := 1) 2 hk dX11_load_1 rfl rfl rfl ?_
  refine vv_iconst 3 hk dX11_load_2 rfl ic_4 ?_
  refine vv_staIr (st := [(rf G 0)]) 6 hk he dX11_load_3 rfl ml_11_99 sf_X11_within (c_X11_within G a1 (4 : Int32) σ) rfl rfl rfl rfl (fun v1 => ?_)
  refine vv_jn (fun t2 => (σ, 14, [some (rf G 0), some (.int a1), some (.int a2), none], [(.int t2), (rf G 0)])) (fun t2 => ?_) (fun k14 hk14 => ?_)
  · skip
    refine vv_iconst 15 hk dX11_load_14 rfl ic_0 ?_
    refine vv_iload_n (i := 2) 16 hk dX11_load_15 rfl rfl rfl ?_
    refine vv_jn (fun t3 => (σ, 24, [some (rf G 0), some (.int a1), some (.int a2), none], [(.int t3), (.int (0 : Int32)), (.int t2), (rf G 0)])) (fun t3 => ?_) (fun k24 hk24 => ?_)
    · skip
      refine vv_iload_n (i := 2) 25 hk dX11_load_24 rfl rfl rfl ?_
      refine vv_sipush 28 hk dX11_load_25 rfl sp_300 ?_
      refine vv_jn (fun t4 => (σ, 36, [some (rf G 0), some (.int a1), some (.int a2), none], [(.int t4), (.int t3), (.int (0 : Int32)), (.int t2), (rf G 0)])) (fun t4 => ?_) (fun k36 hk36 => ?_)
      · skip
        refine vv_invI (st := []) 39 hk he dX11_load_36 rfl ml_11_107 cf_X11_refusal la_0 ci_11 (c_X11_refusal G t2 (0 : Int32) t3 t4 σ) rfl rfl rfl rfl (fun v5 σ6 => ?_)
        refine vv_istore_n (i := 3) 40 [some (rf G 0), some (.int a1), some (.int a2), some (.int v5)] hk dX11_load_39 rfl rfl rfl rfl ?_
        refine vv_iload_n (i := 3) 41 hk dX11_load_40 rfl rfl rfl ?_
        refine vv_jn (fun t7 => (σ6, 57, [some (rf G 0), none, none, none], [(.int t7)])) (fun t7 => ?_) (fun k57 hk57 => ?_)
        · skip
          exact hret _ _ _ _ dX11_load_57
        · skip
          refine vv_if_eq 48 44 hk dX11_load_41 rfl rfl ?_ ?_
          · skip
            refine vv_aload_n (i := 0) 49 hk dX11_load_48 rfl rfl rfl ?_
            refine vv_getR 52 hk dX11_load_49 rfl la_0 rfl ci_11 rfl fl_11_84 ?_
            refine vv_iload_n (i := 1) 53 hk dX11_load_52 rfl rfl rfl ?_
            refine vv_iload_n (i := 2) 54 hk dX11_load_53 rfl rfl rfl ?_
            refine vv_invIr (st := []) 57 hk he dX11_load_54 rfl ml_11_277 cf_X1_bearable la_72 ci_1 (c_X1_bearable G a1 a2 σ6) rfl rfl rfl rfl (fun v8 => ?_)
            exact vv_le (ll_s rfl (ll_n (ll_n (ll_n ll_0)))) (hk57 v8)
          · skip
            refine vv_iload_n (i := 3) 45 hk dX11_load_44 rfl rfl rfl ?_
            refine vv_goto 57 hk dX11_load_45 rfl ?_
            exact vv_le (ll_s rfl (ll_n (ll_n (ll_n ll_0)))) (hk57 v5)
      · skip
        refine vv_icmp_le 35 31 hk dX11_load_28 rfl rfl ?_ ?_
        · skip
          refine vv_iconst 36 hk dX11_load_35 rfl ic_0 ?_
          exact vv_le (ll_s rfl (ll_s rfl (ll_s rfl (ll_n ll_0)))) (hk36 (0 : Int32))
        · skip
          refine vv_iconst 32 hk dX11_load_31 rfl ic_1 ?_
          refine vv_goto 36 hk dX11_load_32 rfl ?_
          exact vv_le (ll_s rfl (ll_s rfl (ll_s rfl (ll_n ll_0)))) (hk36 (1 : Int32))
    · skip
      refine vv_if_ge 23 19 hk dX11_load_16 rfl rfl ?_ ?_
      · skip
        refine vv_iconst 24 hk dX11_load_23 rfl ic_0 ?_
        exact vv_le (ll_s rfl (ll_s rfl (ll_s rfl (ll_n ll_0)))) (hk24 (0 : Int32))
      · skip
        refine vv_iconst 20 hk dX11_load_19 rfl ic_1 ?_
        refine vv_goto 24 hk dX11_load_20 rfl ?_
        exact vv_le (ll_s rfl (ll_s rfl (ll_s rfl (ll_n ll_0)))) (hk24 (1 : Int32))
  · skip
    refine vv_if_ne 13 9 hk dX11_load_6 rfl rfl ?_ ?_
    · skip
      refine vv_iconst 10 hk dX11_load_9 rfl ic_1 ?_
      refine vv_goto 14 hk dX11_load_10 rfl ?_
      exact vv_le (ll_s rfl (ll_s rfl (ll_s rfl (ll_n ll_0)))) (hk14 (1 : Int32))
    · skip
      refine vv_iconst 14 hk dX11_load_13 rfl ic_0 ?_
      exact vv_le (ll_s rfl (ll_s rfl (ll_s rfl (ll_n ll_0)))) (hk14 (0 : Int32))
theorem c_X11_passing (G : GT) (a1 : Int32) (a2 : Int32) (a3 : Int32) (a4 : Int32) (σ : Hp) : CtJ G true yX11_passing cX11_passing 7 (some .long) 1 [(.int a1), (.int a2), (.int a3), (.int a4)] (rdJ (f_X11_passing a1 a2 a3 a4) σ) σ := by
  refine ctJr (L0 := [some (.int a1), some (.int a2), some (.int a3), some (.int a4), none, none, none]) (by decide +kernel) rfl rfl rfl (fun κ hk he hret => ?_)
  have hk : KO G κ cX11_passing RX11 1 := hk
  refine vv_lconst 1 hk dX11_passing_0 rfl lc_0 ?_
  refine vv_lstore 3 [some (.int a1), some (.int a2), some (.int a3), some (.int a4), some (.long (0 : Int64)), none, none] hk dX11_passing_1 rfl rfl rfl ?_
  refine vv_iconst 4 hk dX11_passing_3 rfl ic_0 ?_
  refine vv_istore 6 [some (.int a1), some (.int a2), some (.int a3), some (.int a4), some (.long (0 : Int64)), none, some (.int (0 : Int32))] hk dX11_passing_4 rfl rfl rfl ?_
  refine vv_lp (fun t1 => (σ, 6, [some (.int a1), some (.int a2), some (.int a3), some (.int a4), some (.long t1.1), none, some (.int t1.2)], [])) (fun kl6 hkl6 t1 => ?_) FU ((0 : Int64), (0 : Int32))
  refine vv_iload 8 hk dX11_passing_6 rfl rfl ?_
  refine vv_iload_n (i := 3) 9 hk dX11_passing_8 rfl rfl rfl ?_
  refine vv_icmp_gt 40 12 hk dX11_passing_9 rfl rfl ?_ ?_
  · skip
    refine vv_lload 42 hk dX11_passing_40 rfl rfl ?_
    exact hret _ _ _ dX11_passing_42
  · skip
    refine vv_lload 14 hk dX11_passing_12 rfl rfl ?_
    refine vv_iload_n (i := 1) 15 hk dX11_passing_14 rfl rfl rfl ?_
    refine vv_iload 17 hk dX11_passing_15 rfl rfl ?_
    refine vv_staJr (st := [(.long t1.1)]) 20 hk he dX11_passing_17 rfl ml_11_299 sf_X11_choices (c_X11_choices G a2 t1.2 σ) rfl rfl rfl rfl (fun v2 => ?_)
    refine vv_iload_n (i := 0) 21 hk dX11_passing_20 rfl rfl rfl ?_
    refine vv_iload_n (i := 1) 22 hk dX11_passing_21 rfl rfl rfl ?_
    refine vv_isub 23 hk dX11_passing_22 rfl ?_
    refine vv_iload_n (i := 2) 24 hk dX11_passing_23 rfl rfl rfl ?_
    refine vv_iload 26 hk dX11_passing_24 rfl rfl ?_
    refine vv_isub 27 hk dX11_passing_26 rfl ?_
    refine vv_staJr (st := [(.long v2), (.long t1.1)]) 30 hk he dX11_passing_27 rfl ml_11_299 sf_X11_choices (c_X11_choices G (a1 - a2) (a3 - t1.2) σ) rfl rfl rfl rfl (fun v3 => ?_)
    refine vv_lmul 31 hk dX11_passing_30 rfl ?_
    refine vv_ladd 32 hk dX11_passing_31 rfl ?_
    refine vv_lstoreL 34 (fun x4 => [some (.int a1), some (.int a2), some (.int a3), some (.int a4), some (.long x4), none, some (.int t1.2)]) hk dX11_passing_32 rfl rfl (fun _ => rfl) (fun x4 => ?_)
    refine vv_iinc 37 (fun x5 => [some (.int a1), some (.int a2), some (.int a3), some (.int a4), some (.long x4), none, some (.int x5)]) hk dX11_passing_34 rfl rfl ic_1 (fun _ => rfl) (fun x5 => ?_)
    refine vv_goto 6 hk dX11_passing_37 rfl ?_
    exact vv_le (ll_s rfl (ll_s rfl (ll_s rfl (ll_s rfl (ll_s rfl (ll_n (ll_s rfl ll_0))))))) (hkl6 (x4, x5))
theorem c_X11_odds (G : GT) (a1 : Int32) (a2 : Int32) (a3 : Int32) (a4 : Int32) (a5 : Int32) (σ : Hp) : CtJ G true yX11_odds cX11_odds 7 (some .long) 2 [(rf G 0), (.int a1), (.int a2), (.int a3), (.int a4), (.int a5)] (f_X11_odds a1 a2 a3 a4 a5 σ) σ := by
  refine ctJ (L0 := [some (rf G 0), some (.int a1), some (.int a2), some (.int a3), some (.int a4), some (.int a5), none]) (by decide +kernel) rfl rfl rfl (fun κ hk he hret => ?_)
  have hk : KO G κ cX11_odds RX11 2 := hk
  refine vv_aload_n (i := 0) 1 hk dX11_odds_0 rfl rfl rfl ?_
  refine vv_iconst 2 hk dX11_odds_1 rfl ic_0 ?_
  refine vv_iload 4 hk dX11_odds_2 rfl rfl ?_
  refine vv_iconst 5 hk dX11_odds_4 rfl ic_2 ?_
  refine vv_staIr (st := [(.int (0 : Int32)), (rf G 0)]) 8 hk he dX11_odds_5 rfl ml_11_99 sf_X11_within (c_X11_within G a5 (2 : Int32) σ) rfl rfl rfl rfl (fun v1 => ?_)
  refine vv_jn (fun t2 => (σ, 16, [some (rf G 0), some (.int a1), some (.int a2), some (.int a3), some (.int a4), some (.int a5), none], [(.int t2), (.int (0 : Int32)), (rf G 0)])) (fun t2 => ?_) (fun k16 hk16 => ?_)
  · skip
    refine vv_iload_n (i := 1) 17 hk dX11_odds_16 rfl rfl rfl ?_
    refine vv_iconst 18 hk dX11_odds_17 rfl ic_1 ?_
    refine vv_jn (fun t3 => (σ, 39, [some (rf G 0), some (.int a1), some (.int a2), some (.int a3), some (.int a4), some (.int a5), none], [(.int t3), (.int t2), (.int (0 : Int32)), (rf G 0)])) (fun t3 => ?_) (fun k39 hk39 => ?_)
    · skip
      refine vv_iload_n (i := 1) 40 hk dX11_odds_39 rfl rfl rfl ?_
      refine vv_bipush 42 hk dX11_odds_40 rfl bp_30 ?_
      refine vv_jn (fun t4 => (σ, 72, [some (rf G 0), some (.int a1), some (.int a2), some (.int a3), some (.int a4), some (.int a5), none], [(.int t4), (.int t3), (.int t2), (.int (0 : Int32)), (rf G 0)])) (fun t4 => ?_) (fun k72 hk72 => ?_)
      · skip
        refine vv_invI (st := []) 75 hk he dX11_odds_72 rfl ml_11_107 cf_X11_refusal la_0 ci_11 (c_X11_refusal G (0 : Int32) t2 t3 t4 σ) rfl rfl rfl rfl (fun v5 σ6 => ?_)
        refine vv_istore 77 [some (rf G 0), some (.int a1), some (.int a2), some (.int a3), some (.int a4), some (.int a5), some (.int v5)] hk dX11_odds_75 rfl rfl rfl ?_
        refine vv_iload 79 hk dX11_odds_77 rfl rfl ?_
        refine vv_if_eq 86 82 hk dX11_odds_79 rfl rfl ?_ ?_
        · skip
          refine vv_iload 88 hk dX11_odds_86 rfl rfl ?_
          refine vv_iconst 89 hk dX11_odds_88 rfl ic_1 ?_
          refine vv_jn (fun t7 => (σ6, 108, [some (rf G 0), none, none, none, none, none, none], [(.long t7)])) (fun t7 => ?_) (fun k108 hk108 => ?_)
          · skip
            exact hret _ _ _ _ dX11_odds_108
          · skip
            refine vv_icmp_ne 100 92 hk dX11_odds_89 rfl rfl ?_ ?_
            · skip
              refine vv_iload_n (i := 1) 93 hk dX11_odds_92 rfl rfl rfl ?_
              refine vv_iload_n (i := 3) 94 hk dX11_odds_93 rfl rfl rfl ?_
              refine vv_staJr (st := []) 97 hk he dX11_odds_94 rfl ml_11_299 sf_X11_choices (c_X11_choices G a1 a3 σ6) rfl rfl rfl rfl (fun v8 => ?_)
              refine vv_goto 108 hk dX11_odds_97 rfl ?_
              exact vv_le (ll_s rfl (ll_n (ll_n (ll_n (ll_n (ll_n (ll_n ll_0))))))) (hk108 v8)
            · skip
              refine vv_iload_n (i := 1) 101 hk dX11_odds_100 rfl rfl rfl ?_
              refine vv_iload_n (i := 2) 102 hk dX11_odds_101 rfl rfl rfl ?_
              refine vv_iload_n (i := 3) 103 hk dX11_odds_102 rfl rfl rfl ?_
              refine vv_iload 105 hk dX11_odds_103 rfl rfl ?_
              refine vv_staJr (st := []) 108 hk he dX11_odds_105 rfl ml_11_303 sf_X11_passing (c_X11_passing G a1 a2 a3 a4 σ6) rfl rfl rfl rfl (fun v9 => ?_)
              exact vv_le (ll_s rfl (ll_n (ll_n (ll_n (ll_n (ll_n (ll_n ll_0))))))) (hk108 v9)
        · skip
          refine vv_iload 84 hk dX11_odds_82 rfl rfl ?_
          refine vv_i2l 85 hk dX11_odds_84 rfl ?_
          exact hret _ _ _ _ dX11_odds_85
      · skip
        refine vv_jn (fun t10 => (σ, 67, [some (rf G 0), some (.int a1), some (.int a2), some (.int a3), some (.int a4), some (.int a5), none], [(.int t3), (.int t2), (.int (0 : Int32)), (rf G 0)])) (fun t10 => ?_) (fun k67 hk67 => ?_)
        · skip
          refine vv_iconst 68 hk dX11_odds_67 rfl ic_1 ?_
          refine vv_goto 72 hk dX11_odds_68 rfl ?_
          exact vv_le (ll_s rfl (ll_s rfl (ll_s rfl (ll_s rfl (ll_s rfl (ll_s rfl (ll_n ll_0))))))) (hk72 (1 : Int32))
        · skip
          refine vv_icmp_gt 67 45 hk dX11_odds_42 rfl rfl ?_ ?_
          · skip
            exact vv_le (ll_s rfl (ll_s rfl (ll_s rfl (ll_s rfl (ll_s rfl (ll_s rfl (ll_n ll_0))))))) (hk67 ())
          · skip
            refine vv_iload_n (i := 2) 46 hk dX11_odds_45 rfl rfl rfl ?_
            refine vv_iload_n (i := 1) 47 hk dX11_odds_46 rfl rfl rfl ?_
            refine vv_icmp_gt 67 50 hk dX11_odds_47 rfl rfl ?_ ?_
            · skip
              exact vv_le (ll_s rfl (ll_s rfl (ll_s rfl (ll_s rfl (ll_s rfl (ll_s rfl (ll_n ll_0))))))) (hk67 ())
            · skip
              refine vv_iload_n (i := 3) 51 hk dX11_odds_50 rfl rfl rfl ?_
              refine vv_bipush 53 hk dX11_odds_51 rfl bp_20 ?_
              refine vv_icmp_gt 67 56 hk dX11_odds_53 rfl rfl ?_ ?_
              · skip
                exact vv_le (ll_s rfl (ll_s rfl (ll_s rfl (ll_s rfl (ll_s rfl (ll_s rfl (ll_n ll_0))))))) (hk67 ())
              · skip
                refine vv_iload_n (i := 3) 57 hk dX11_odds_56 rfl rfl rfl ?_
                refine vv_iload_n (i := 1) 58 hk dX11_odds_57 rfl rfl rfl ?_
                refine vv_icmp_gt 67 61 hk dX11_odds_58 rfl rfl ?_ ?_
                · skip
                  exact vv_le (ll_s rfl (ll_s rfl (ll_s rfl (ll_s rfl (ll_s rfl (ll_s rfl (ll_n ll_0))))))) (hk67 ())
                · skip
                  refine vv_iload 63 hk dX11_odds_61 rfl rfl ?_
                  refine vv_iload_n (i := 3) 64 hk dX11_odds_63 rfl rfl rfl ?_
                  refine vv_icmp_le 71 67 hk dX11_odds_64 rfl rfl ?_ ?_
                  · skip
                    refine vv_iconst 72 hk dX11_odds_71 rfl ic_0 ?_
                    exact vv_le (ll_s rfl (ll_s rfl (ll_s rfl (ll_s rfl (ll_s rfl (ll_s rfl (ll_n ll_0))))))) (hk72 (0 : Int32))
                  · skip
                    exact vv_le (ll_s rfl (ll_s rfl (ll_s rfl (ll_s rfl (ll_s rfl (ll_s rfl (ll_n ll_0))))))) (hk67 ())
    · skip
      refine vv_jn (fun t11 => (σ, 34, [some (rf G 0), some (.int a1), some (.int a2), some (.int a3), some (.int a4), some (.int a5), none], [(.int t2), (.int (0 : Int32)), (rf G 0)])) (fun t11 => ?_) (fun k34 hk34 => ?_)
      · skip
        refine vv_iconst 35 hk dX11_odds_34 rfl ic_1 ?_
        refine vv_goto 39 hk dX11_odds_35 rfl ?_
        exact vv_le (ll_s rfl (ll_s rfl (ll_s rfl (ll_s rfl (ll_s rfl (ll_s rfl (ll_n ll_0))))))) (hk39 (1 : Int32))
      · skip
        refine vv_icmp_lt 34 21 hk dX11_odds_18 rfl rfl ?_ ?_
        · skip
          exact vv_le (ll_s rfl (ll_s rfl (ll_s rfl (ll_s rfl (ll_s rfl (ll_s rfl (ll_n ll_0))))))) (hk34 ())
        · skip
          refine vv_iload_n (i := 2) 22 hk dX11_odds_21 rfl rfl rfl ?_
          refine vv_if_lt 34 25 hk dX11_odds_22 rfl rfl ?_ ?_
          · skip
            exact vv_le (ll_s rfl (ll_s rfl (ll_s rfl (ll_s rfl (ll_s rfl (ll_s rfl (ll_n ll_0))))))) (hk34 ())
          · skip
            refine vv_iload_n (i := 3) 26 hk dX11_odds_25 rfl rfl rfl ?_
            refine vv_if_lt 34 29 hk dX11_odds_26 rfl rfl ?_ ?_
            · skip
              exact vv_le (ll_s rfl (ll_s rfl (ll_s rfl (ll_s rfl (ll_s rfl (ll_s rfl (ll_n ll_0))))))) (hk34 ())
            · skip
              refine vv_iload 31 hk dX11_odds_29 rfl rfl ?_
              refine vv_if_ge 38 34 hk dX11_odds_31 rfl rfl ?_ ?_
              · skip
                refine vv_iconst 39 hk dX11_odds_38 rfl ic_0 ?_
                exact vv_le (ll_s rfl (ll_s rfl (ll_s rfl (ll_s rfl (ll_s rfl (ll_s rfl (ll_n ll_0))))))) (hk39 (0 : Int32))
              · skip
                exact vv_le (ll_s rfl (ll_s rfl (ll_s rfl (ll_s rfl (ll_s rfl (ll_s rfl (ll_n ll_0))))))) (hk34 ())
  · skip
    refine vv_if_ne 15 11 hk dX11_odds_8 rfl rfl ?_ ?_
    · skip
      refine vv_iconst 12 hk dX11_odds_11 rfl ic_1 ?_
      refine vv_goto 16 hk dX11_odds_12 rfl ?_
      exact vv_le (ll_s rfl (ll_s rfl (ll_s rfl (ll_s rfl (ll_s rfl (ll_s rfl (ll_n ll_0))))))) (hk16 (1 : Int32))
    · skip
      refine vv_iconst 16 hk dX11_odds_15 rfl ic_0 ?_
      exact vv_le (ll_s rfl (ll_s rfl (ll_s rfl (ll_s rfl (ll_s rfl (ll_s rfl (ll_n ll_0))))))) (hk16 (0 : Int32))
theorem c_X11_offer (G : GT) (a1 : Int32) (a2 : Int32) (a3 : Int32) (σ : Hp) : CtI G true yX11_offer cX11_offer 5 (some .int) 2 [(rf G 0), (.int a1), (.int a2), (.int a3)] (f_X11_offer a1 a2 a3 σ) σ := by
  refine ctI (L0 := [some (rf G 0), some (.int a1), some (.int a2), some (.int a3), none]) (by decide +kernel) rfl rfl rfl (fun κ hk he hret => ?_)
  have hk : KO G κ cX11_offer RX11 2 := hk
  refine vv_aload_n (i := 0) 1 hk dX11_offer_0 rfl rfl rfl ?_
  refine vv_iload_n (i := 1) 2 hk dX11_offer_1 rfl rfl rfl ?_
  refine vv_aload_n (i := 0) 3 hk dX11_offer_2 rfl rfl rfl ?_
  refine vv_getR 6 hk dX11_offer_3 rfl la_0 rfl ci_11 rfl fl_11_10 ?_
  refine vv_getI 9 hk he dX11_offer_6 rfl la_1 rfl ci_5 rfl fl_11_103 sd_1 ?_
  refine vv_staIr (st := [(rf G 0)]) 12 hk he dX11_offer_9 rfl ml_11_99 sf_X11_within (c_X11_within G a1 (σ.1 1 0) σ) rfl rfl rfl rfl (fun v1 => ?_)
  refine vv_jn (fun t2 => (σ, 20, [some (rf G 0), some (.int a1), some (.int a2), some (.int a3), none], [(.int t2), (rf G 0)])) (fun t2 => ?_) (fun k20 hk20 => ?_)
  · skip
    refine vv_iconst 21 hk dX11_offer_20 rfl ic_0 ?_
    refine vv_iload_n (i := 2) 22 hk dX11_offer_21 rfl rfl rfl ?_
    refine vv_iconst 23 hk dX11_offer_22 rfl ic_1 ?_
    refine vv_jn (fun t3 => (σ, 36, [some (rf G 0), some (.int a1), some (.int a2), some (.int a3), none], [(.int t3), (.int (0 : Int32)), (.int t2), (rf G 0)])) (fun t3 => ?_) (fun k36 hk36 => ?_)
    · skip
      refine vv_iload_n (i := 2) 37 hk dX11_offer_36 rfl rfl rfl ?_
      refine vv_bipush 39 hk dX11_offer_37 rfl bp_9 ?_
      refine vv_jn (fun t4 => (σ, 66, [some (rf G 0), some (.int a1), some (.int a2), some (.int a3), none], [(.int t4), (.int t3), (.int (0 : Int32)), (.int t2), (rf G 0)])) (fun t4 => ?_) (fun k66 hk66 => ?_)
      · skip
        refine vv_invI (st := []) 69 hk he dX11_offer_66 rfl ml_11_107 cf_X11_refusal la_0 ci_11 (c_X11_refusal G t2 (0 : Int32) t3 t4 σ) rfl rfl rfl rfl (fun v5 σ6 => ?_)
        refine vv_istore 71 [some (rf G 0), some (.int a1), some (.int a2), some (.int a3), some (.int v5)] hk dX11_offer_69 rfl rfl rfl ?_
        refine vv_iload 73 hk dX11_offer_71 rfl rfl ?_
        refine vv_jn (fun t7 => (t7.2, 91, [some (rf G 0), none, none, none, none], [(.int t7.1)])) (fun t7 => ?_) (fun k91 hk91 => ?_)
        · skip
          exact hret _ _ _ _ dX11_offer_91
        · skip
          refine vv_if_eq 81 76 hk dX11_offer_73 rfl rfl ?_ ?_
          · skip
            refine vv_aload_n (i := 0) 82 hk dX11_offer_81 rfl rfl rfl ?_
            refine vv_getR 85 hk dX11_offer_82 rfl la_0 rfl ci_11 rfl fl_11_63 ?_
            refine vv_iload_n (i := 1) 86 hk dX11_offer_85 rfl rfl rfl ?_
            refine vv_iload_n (i := 2) 87 hk dX11_offer_86 rfl rfl rfl ?_
            refine vv_iload_n (i := 3) 88 hk dX11_offer_87 rfl rfl rfl ?_
            refine vv_invI (st := []) 91 hk he dX11_offer_88 rfl ml_11_310 cf_X7_addOffer la_54 ci_7 (c_X7_addOffer G a1 a2 a3 σ6) rfl rfl rfl rfl (fun v8 σ9 => ?_)
            exact vv_le (ll_s rfl (ll_n (ll_n (ll_n (ll_n ll_0))))) (hk91 (v8, σ9))
          · skip
            refine vv_iload 78 hk dX11_offer_76 rfl rfl ?_
            refine vv_goto 91 hk dX11_offer_78 rfl ?_
            exact vv_le (ll_s rfl (ll_n (ll_n (ll_n (ll_n ll_0))))) (hk91 (v5, σ6))
      · skip
        refine vv_jn (fun t10 => (σ, 61, [some (rf G 0), some (.int a1), some (.int a2), some (.int a3), none], [(.int t3), (.int (0 : Int32)), (.int t2), (rf G 0)])) (fun t10 => ?_) (fun k61 hk61 => ?_)
        · skip
          refine vv_iconst 62 hk dX11_offer_61 rfl ic_1 ?_
          refine vv_goto 66 hk dX11_offer_62 rfl ?_
          exact vv_le (ll_s rfl (ll_s rfl (ll_s rfl (ll_s rfl (ll_n ll_0))))) (hk66 (1 : Int32))
        · skip
          refine vv_icmp_gt 61 42 hk dX11_offer_39 rfl rfl ?_ ?_
          · skip
            exact vv_le (ll_s rfl (ll_s rfl (ll_s rfl (ll_s rfl (ll_n ll_0))))) (hk61 ())
          · skip
            refine vv_iload_n (i := 3) 43 hk dX11_offer_42 rfl rfl rfl ?_
            refine vv_sipush 46 hk dX11_offer_43 rfl sp_999 ?_
            refine vv_icmp_gt 61 49 hk dX11_offer_46 rfl rfl ?_ ?_
            · skip
              exact vv_le (ll_s rfl (ll_s rfl (ll_s rfl (ll_s rfl (ll_n ll_0))))) (hk61 ())
            · skip
              refine vv_aload_n (i := 0) 50 hk dX11_offer_49 rfl rfl rfl ?_
              refine vv_getR 53 hk dX11_offer_50 rfl la_0 rfl ci_11 rfl fl_11_63 ?_
              refine vv_getI 56 hk he dX11_offer_53 rfl la_54 rfl ci_7 rfl fl_11_307 sd_54 ?_
              refine vv_bipush 58 hk dX11_offer_56 rfl bp_6 ?_
              refine vv_icmp_lt 65 61 hk dX11_offer_58 rfl rfl ?_ ?_
              · skip
                refine vv_iconst 66 hk dX11_offer_65 rfl ic_0 ?_
                exact vv_le (ll_s rfl (ll_s rfl (ll_s rfl (ll_s rfl (ll_n ll_0))))) (hk66 (0 : Int32))
              · skip
                exact vv_le (ll_s rfl (ll_s rfl (ll_s rfl (ll_s rfl (ll_n ll_0))))) (hk61 ())
    · skip
      refine vv_jn (fun t11 => (σ, 31, [some (rf G 0), some (.int a1), some (.int a2), some (.int a3), none], [(.int (0 : Int32)), (.int t2), (rf G 0)])) (fun t11 => ?_) (fun k31 hk31 => ?_)
      · skip
        refine vv_iconst 32 hk dX11_offer_31 rfl ic_1 ?_
        refine vv_goto 36 hk dX11_offer_32 rfl ?_
        exact vv_le (ll_s rfl (ll_s rfl (ll_s rfl (ll_s rfl (ll_n ll_0))))) (hk36 (1 : Int32))
      · skip
        refine vv_icmp_lt 31 26 hk dX11_offer_23 rfl rfl ?_ ?_
        · skip
          exact vv_le (ll_s rfl (ll_s rfl (ll_s rfl (ll_s rfl (ll_n ll_0))))) (hk31 ())
        · skip
          refine vv_iload_n (i := 3) 27 hk dX11_offer_26 rfl rfl rfl ?_
          refine vv_iconst 28 hk dX11_offer_27 rfl ic_1 ?_
          refine vv_icmp_ge 35 31 hk dX11_offer_28 rfl rfl ?_ ?_
          · skip
            refine vv_iconst 36 hk dX11_offer_35 rfl ic_0 ?_
            exact vv_le (ll_s rfl (ll_s rfl (ll_s rfl (ll_s rfl (ll_n ll_0))))) (hk36 (0 : Int32))
          · skip
            exact vv_le (ll_s rfl (ll_s rfl (ll_s rfl (ll_s rfl (ll_n ll_0))))) (hk31 ())
  · skip
    refine vv_if_ne 19 15 hk dX11_offer_12 rfl rfl ?_ ?_
    · skip
      refine vv_iconst 16 hk dX11_offer_15 rfl ic_1 ?_
      refine vv_goto 20 hk dX11_offer_16 rfl ?_
      exact vv_le (ll_s rfl (ll_s rfl (ll_s rfl (ll_s rfl (ll_n ll_0))))) (hk20 (1 : Int32))
    · skip
      refine vv_iconst 20 hk dX11_offer_19 rfl ic_0 ?_
      exact vv_le (ll_s rfl (ll_s rfl (ll_s rfl (ll_s rfl (ll_n ll_0))))) (hk20 (0 : Int32))
theorem c_X11_order (G : GT) (a1 : Int32) (a2 : Int32) (σ : Hp) : CtI G true yX11_order cX11_order 5 (some .int) 7 [(rf G 0), (.int a1), (.int a2)] (f_X11_order a1 a2 σ) σ := by
  refine ctI (L0 := [some (rf G 0), some (.int a1), some (.int a2), none, none]) (by decide +kernel) rfl rfl rfl (fun κ hk he hret => ?_)
  have hk : KO G κ cX11_order RX11 7 := hk
  refine vv_iload_n (i := 1) 1 hk dX11_order_0 rfl rfl rfl ?_
  refine vv_jn (fun t1 => (σ, 33, [some (rf G 0), some (.int a1), some (.int a2), none, none], [(.int t1)])) (fun t1 => ?_) (fun k33 hk33 => ?_)
  · skip
    refine vv_istore_n (i := 3) 34 [some (rf G 0), some (.int a1), some (.int a2), some (.int t1), none] hk dX11_order_33 rfl rfl rfl rfl ?_
    refine vv_aload_n (i := 0) 35 hk dX11_order_34 rfl rfl rfl ?_
    refine vv_iload_n (i := 3) 36 hk dX11_order_35 rfl rfl rfl ?_
    refine vv_iconst 37 hk dX11_order_36 rfl ic_0 ?_
    refine vv_iload_n (i := 2) 38 hk dX11_order_37 rfl rfl rfl ?_
    refine vv_jn (fun t2 => (σ, 46, [some (rf G 0), some (.int a1), some (.int a2), none, none], [(.int t2), (.int (0 : Int32)), (.int t1), (rf G 0)])) (fun t2 => ?_) (fun k46 hk46 => ?_)
    · skip
      refine vv_iload_n (i := 1) 47 hk dX11_order_46 rfl rfl rfl ?_
      refine vv_staIr (st := [(.int t2), (.int (0 : Int32)), (.int t1), (rf G 0)]) 50 hk he dX11_order_47 rfl ml_11_234 sf_J6_bitCount_0f7a4 (c_J6_bitCount_0f7a4 G a1 σ) rfl rfl rfl rfl (fun v3 => ?_)
      refine vv_bipush 52 hk dX11_order_50 rfl bp_6 ?_
      refine vv_jn (fun t4 => (σ, 60, [some (rf G 0), some (.int a1), some (.int a2), none, none], [(.int t4), (.int t2), (.int (0 : Int32)), (.int t1), (rf G 0)])) (fun t4 => ?_) (fun k60 hk60 => ?_)
      · skip
        refine vv_invI (st := []) 63 hk he dX11_order_60 rfl ml_11_107 cf_X11_refusal la_0 ci_11 (c_X11_refusal G t1 (0 : Int32) t2 t4 σ) rfl rfl rfl rfl (fun v5 σ6 => ?_)
        refine vv_istore 65 [some (rf G 0), some (.int a1), some (.int a2), none, some (.int v5)] hk dX11_order_63 rfl rfl rfl ?_
        refine vv_iload 67 hk dX11_order_65 rfl rfl ?_
        refine vv_jn (fun t7 => (t7.2, 98, [some (rf G 0), none, none, none, none], [(.int t7.1)])) (fun t7 => ?_) (fun k98 hk98 => ?_)
        · skip
          exact hret _ _ _ _ dX11_order_98
        · skip
          refine vv_if_eq 75 70 hk dX11_order_67 rfl rfl ?_ ?_
          · skip
            refine vv_aload_n (i := 0) 76 hk dX11_order_75 rfl rfl rfl ?_
            refine vv_getR 79 hk dX11_order_76 rfl la_0 rfl ci_11 rfl fl_11_54 ?_
            refine vv_iload_n (i := 1) 80 hk dX11_order_79 rfl rfl rfl ?_
            refine vv_iload_n (i := 2) 81 hk dX11_order_80 rfl rfl rfl ?_
            refine vv_aload_n (i := 0) 82 hk dX11_order_81 rfl rfl rfl ?_
            refine vv_getR 85 hk dX11_order_82 rfl la_0 rfl ci_11 rfl fl_11_10 ?_
            refine vv_getI 88 hk he dX11_order_85 rfl la_1 rfl ci_5 rfl fl_11_162 sd_1 ?_
            refine vv_aload_n (i := 0) 89 hk dX11_order_88 rfl rfl rfl ?_
            refine vv_getR 92 hk dX11_order_89 rfl la_0 rfl ci_11 rfl fl_11_19 ?_
            refine vv_getI 95 hk he dX11_order_92 rfl la_13 rfl ci_4 rfl fl_11_165 sd_13 ?_
            refine vv_invI (st := []) 98 hk he dX11_order_95 rfl ml_11_239 cf_X10_nth la_52 ci_10 (c_X10_nth G a1 a2 (σ6.1 1 15) (σ6.1 13 1) σ6) rfl rfl rfl rfl (fun v8 σ9 => ?_)
            exact vv_le (ll_s rfl (ll_n (ll_n (ll_n (ll_n ll_0))))) (hk98 (v8, σ9))
          · skip
            refine vv_iload 72 hk dX11_order_70 rfl rfl ?_
            refine vv_goto 98 hk dX11_order_72 rfl ?_
            exact vv_le (ll_s rfl (ll_n (ll_n (ll_n (ll_n ll_0))))) (hk98 (v5, σ6))
      · skip
        refine vv_icmp_le 59 55 hk dX11_order_52 rfl rfl ?_ ?_
        · skip
          refine vv_iconst 60 hk dX11_order_59 rfl ic_0 ?_
          exact vv_le (ll_s rfl (ll_s rfl (ll_s rfl (ll_n (ll_n ll_0))))) (hk60 (0 : Int32))
        · skip
          refine vv_iconst 56 hk dX11_order_55 rfl ic_1 ?_
          refine vv_goto 60 hk dX11_order_56 rfl ?_
          exact vv_le (ll_s rfl (ll_s rfl (ll_s rfl (ll_n (ll_n ll_0))))) (hk60 (1 : Int32))
    · skip
      refine vv_if_ge 45 41 hk dX11_order_38 rfl rfl ?_ ?_
      · skip
        refine vv_iconst 46 hk dX11_order_45 rfl ic_0 ?_
        exact vv_le (ll_s rfl (ll_s rfl (ll_s rfl (ll_n (ll_n ll_0))))) (hk46 (0 : Int32))
      · skip
        refine vv_iconst 42 hk dX11_order_41 rfl ic_1 ?_
        refine vv_goto 46 hk dX11_order_42 rfl ?_
        exact vv_le (ll_s rfl (ll_s rfl (ll_s rfl (ll_n (ll_n ll_0))))) (hk46 (1 : Int32))
  · skip
    refine vv_jn (fun t10 => (σ, 28, [some (rf G 0), some (.int a1), some (.int a2), none, none], [])) (fun t10 => ?_) (fun k28 hk28 => ?_)
    · skip
      refine vv_iconst 29 hk dX11_order_28 rfl ic_1 ?_
      refine vv_goto 33 hk dX11_order_29 rfl ?_
      exact vv_le (ll_s rfl (ll_s rfl (ll_s rfl (ll_n (ll_n ll_0))))) (hk33 (1 : Int32))
    · skip
      refine vv_if_lt 28 4 hk dX11_order_1 rfl rfl ?_ ?_
      · skip
        exact vv_le (ll_s rfl (ll_s rfl (ll_s rfl (ll_n (ll_n ll_0))))) (hk28 ())
      · skip
        refine vv_iload_n (i := 1) 5 hk dX11_order_4 rfl rfl rfl ?_
        refine vv_aload_n (i := 0) 6 hk dX11_order_5 rfl rfl rfl ?_
        refine vv_getR 9 hk dX11_order_6 rfl la_0 rfl ci_11 rfl fl_11_10 ?_
        refine vv_getI 12 hk he dX11_order_9 rfl la_1 rfl ci_5 rfl fl_11_142 sd_1 ?_
        refine vv_ishr 13 hk dX11_order_12 rfl ?_
        refine vv_if_ne 28 16 hk dX11_order_13 rfl rfl ?_ ?_
        · skip
          refine vv_iload_n (i := 1) 17 hk dX11_order_16 rfl rfl rfl ?_
          refine vv_aload_n (i := 0) 18 hk dX11_order_17 rfl rfl rfl ?_
          refine vv_getR 21 hk dX11_order_18 rfl la_0 rfl ci_11 rfl fl_11_10 ?_
          refine vv_getI 24 hk he dX11_order_21 rfl la_1 rfl ci_5 rfl fl_11_162 sd_1 ?_
          refine vv_iand 25 hk dX11_order_24 rfl ?_
          refine vv_if_eq 32 28 hk dX11_order_25 rfl rfl ?_ ?_
          · skip
            refine vv_iconst 33 hk dX11_order_32 rfl ic_0 ?_
            exact vv_le (ll_s rfl (ll_s rfl (ll_s rfl (ll_n (ll_n ll_0))))) (hk33 (0 : Int32))
          · skip
            exact vv_le (ll_s rfl (ll_s rfl (ll_s rfl (ll_n (ll_n ll_0))))) (hk28 ())
        · skip
          exact vv_le (ll_s rfl (ll_s rfl (ll_s rfl (ll_n (ll_n ll_0))))) (hk28 ())
theorem c_X11_pipe (G : GT) (a1 : Int32) (a2 : Int32) (a3 : Int32) (σ : Hp) : CtI G true yX11_pipe cX11_pipe 6 (some .int) 2 [(rf G 0), (.int a1), (.int a2), (.int a3)] (f_X11_pipe a1 a2 a3 σ) σ := by
  refine ctI (L0 := [some (rf G 0), some (.int a1), some (.int a2), some (.int a3), none, none]) (by decide +kernel) rfl rfl rfl (fun κ hk he hret => ?_)
  have hk : KO G κ cX11_pipe RX11 2 := hk
  refine vv_iload_n (i := 1) 1 hk dX11_pipe_0 rfl rfl rfl ?_
  refine vv_aload_n (i := 0) 2 hk dX11_pipe_1 rfl rfl rfl ?_
  refine vv_getR 5 hk dX11_pipe_2 rfl la_0 rfl ci_11 rfl fl_11_10 ?_
  refine vv_getI 8 hk he dX11_pipe_5 rfl la_1 rfl ci_5 rfl fl_11_103 sd_1 ?_
  refine vv_staIr (st := []) 11 hk he dX11_pipe_8 rfl ml_11_99 sf_X11_within (c_X11_within G a1 (σ.1 1 0) σ) rfl rfl rfl rfl (fun v1 => ?_)
  refine vv_jn (fun t2 => (σ, 38, [some (rf G 0), some (.int a1), some (.int a2), some (.int a3), none, none], [(.int t2)])) (fun t2 => ?_) (fun k38 hk38 => ?_)
  · skip
    refine vv_istore 40 [some (rf G 0), some (.int a1), some (.int a2), some (.int a3), some (.int t2), none] hk dX11_pipe_38 rfl rfl rfl ?_
    refine vv_aload_n (i := 0) 41 hk dX11_pipe_40 rfl rfl rfl ?_
    refine vv_iload 43 hk dX11_pipe_41 rfl rfl ?_
    refine vv_iconst 44 hk dX11_pipe_43 rfl ic_0 ?_
    refine vv_iload_n (i := 3) 45 hk dX11_pipe_44 rfl rfl rfl ?_
    refine vv_iconst 46 hk dX11_pipe_45 rfl ic_1 ?_
    refine vv_jn (fun t3 => (σ, 54, [some (rf G 0), some (.int a1), some (.int a2), some (.int a3), none, none], [(.int t3), (.int (0 : Int32)), (.int t2), (rf G 0)])) (fun t3 => ?_) (fun k54 hk54 => ?_)
    · skip
      refine vv_iload_n (i := 3) 55 hk dX11_pipe_54 rfl rfl rfl ?_
      refine vv_bipush 57 hk dX11_pipe_55 rfl bp_9 ?_
      refine vv_jn (fun t4 => (σ, 77, [some (rf G 0), some (.int a1), some (.int a2), some (.int a3), none, none], [(.int t4), (.int t3), (.int (0 : Int32)), (.int t2), (rf G 0)])) (fun t4 => ?_) (fun k77 hk77 => ?_)
      · skip
        refine vv_invI (st := []) 80 hk he dX11_pipe_77 rfl ml_11_107 cf_X11_refusal la_0 ci_11 (c_X11_refusal G t2 (0 : Int32) t3 t4 σ) rfl rfl rfl rfl (fun v5 σ6 => ?_)
        refine vv_istore 82 [some (rf G 0), some (.int a1), some (.int a2), some (.int a3), none, some (.int v5)] hk dX11_pipe_80 rfl rfl rfl ?_
        refine vv_iload 84 hk dX11_pipe_82 rfl rfl ?_
        refine vv_if_eq 90 87 hk dX11_pipe_84 rfl rfl ?_ ?_
        · skip
          refine vv_aload_n (i := 0) 91 hk dX11_pipe_90 rfl rfl rfl ?_
          refine vv_getR 94 hk dX11_pipe_91 rfl la_0 rfl ci_11 rfl fl_11_29 ?_
          refine vv_invV (st := []) 97 hk he dX11_pipe_94 rfl ml_11_111 cf_X0_forget la_25 ci_0 (c_X0_forget G σ6) rfl rfl rfl rfl (fun σ7 => ?_)
          refine vv_aload_n (i := 0) 98 hk dX11_pipe_97 rfl rfl rfl ?_
          refine vv_getR 101 hk dX11_pipe_98 rfl la_0 rfl ci_11 rfl fl_11_10 ?_
          refine vv_iload_n (i := 1) 102 hk dX11_pipe_101 rfl rfl rfl ?_
          refine vv_iload_n (i := 2) 103 hk dX11_pipe_102 rfl rfl rfl ?_
          refine vv_iload_n (i := 3) 104 hk dX11_pipe_103 rfl rfl rfl ?_
          refine vv_invI (st := []) 107 hk he dX11_pipe_104 rfl ml_11_138 cf_X5_addPipe la_1 ci_5 (c_X5_addPipe G a1 a2 a3 σ7) rfl rfl rfl rfl (fun v8 σ9 => ?_)
          exact hret _ _ _ _ dX11_pipe_107
        · skip
          refine vv_iload 89 hk dX11_pipe_87 rfl rfl ?_
          exact hret _ _ _ _ dX11_pipe_89
      · skip
        refine vv_jn (fun t10 => (σ, 72, [some (rf G 0), some (.int a1), some (.int a2), some (.int a3), none, none], [(.int t3), (.int (0 : Int32)), (.int t2), (rf G 0)])) (fun t10 => ?_) (fun k72 hk72 => ?_)
        · skip
          refine vv_iconst 73 hk dX11_pipe_72 rfl ic_1 ?_
          refine vv_goto 77 hk dX11_pipe_73 rfl ?_
          exact vv_le (ll_s rfl (ll_s rfl (ll_s rfl (ll_s rfl (ll_n (ll_n ll_0)))))) (hk77 (1 : Int32))
        · skip
          refine vv_icmp_gt 72 60 hk dX11_pipe_57 rfl rfl ?_ ?_
          · skip
            exact vv_le (ll_s rfl (ll_s rfl (ll_s rfl (ll_s rfl (ll_n (ll_n ll_0)))))) (hk72 ())
          · skip
            refine vv_aload_n (i := 0) 61 hk dX11_pipe_60 rfl rfl rfl ?_
            refine vv_getR 64 hk dX11_pipe_61 rfl la_0 rfl ci_11 rfl fl_11_10 ?_
            refine vv_getI 67 hk he dX11_pipe_64 rfl la_1 rfl ci_5 rfl fl_11_135 sd_1 ?_
            refine vv_bipush 69 hk dX11_pipe_67 rfl bp_12 ?_
            refine vv_icmp_lt 76 72 hk dX11_pipe_69 rfl rfl ?_ ?_
            · skip
              refine vv_iconst 77 hk dX11_pipe_76 rfl ic_0 ?_
              exact vv_le (ll_s rfl (ll_s rfl (ll_s rfl (ll_s rfl (ll_n (ll_n ll_0)))))) (hk77 (0 : Int32))
            · skip
              exact vv_le (ll_s rfl (ll_s rfl (ll_s rfl (ll_s rfl (ll_n (ll_n ll_0)))))) (hk72 ())
    · skip
      refine vv_icmp_ge 53 49 hk dX11_pipe_46 rfl rfl ?_ ?_
      · skip
        refine vv_iconst 54 hk dX11_pipe_53 rfl ic_0 ?_
        exact vv_le (ll_s rfl (ll_s rfl (ll_s rfl (ll_s rfl (ll_n (ll_n ll_0)))))) (hk54 (0 : Int32))
      · skip
        refine vv_iconst 50 hk dX11_pipe_49 rfl ic_1 ?_
        refine vv_goto 54 hk dX11_pipe_50 rfl ?_
        exact vv_le (ll_s rfl (ll_s rfl (ll_s rfl (ll_s rfl (ll_n (ll_n ll_0)))))) (hk54 (1 : Int32))
  · skip
    refine vv_jn (fun t11 => (σ, 33, [some (rf G 0), some (.int a1), some (.int a2), some (.int a3), none, none], [])) (fun t11 => ?_) (fun k33 hk33 => ?_)
    · skip
      refine vv_iconst 34 hk dX11_pipe_33 rfl ic_1 ?_
      refine vv_goto 38 hk dX11_pipe_34 rfl ?_
      exact vv_le (ll_s rfl (ll_s rfl (ll_s rfl (ll_s rfl (ll_n (ll_n ll_0)))))) (hk38 (1 : Int32))
    · skip
      refine vv_if_eq 33 14 hk dX11_pipe_11 rfl rfl ?_ ?_
      · skip
        exact vv_le (ll_s rfl (ll_s rfl (ll_s rfl (ll_s rfl (ll_n (ll_n ll_0)))))) (hk33 ())
      · skip
        refine vv_iload_n (i := 2) 15 hk dX11_pipe_14 rfl rfl rfl ?_
        refine vv_aload_n (i := 0) 16 hk dX11_pipe_15 rfl rfl rfl ?_
        refine vv_getR 19 hk dX11_pipe_16 rfl la_0 rfl ci_11 rfl fl_11_10 ?_
        refine vv_getI 22 hk he dX11_pipe_19 rfl la_1 rfl ci_5 rfl fl_11_103 sd_1 ?_
        refine vv_staIr (st := []) 25 hk he dX11_pipe_22 rfl ml_11_99 sf_X11_within (c_X11_within G a2 (σ.1 1 0) σ) rfl rfl rfl rfl (fun v12 => ?_)
        refine vv_if_eq 33 28 hk dX11_pipe_25 rfl rfl ?_ ?_
        · skip
          exact vv_le (ll_s rfl (ll_s rfl (ll_s rfl (ll_s rfl (ll_n (ll_n ll_0)))))) (hk33 ())
        · skip
          refine vv_iload_n (i := 1) 29 hk dX11_pipe_28 rfl rfl rfl ?_
          refine vv_iload_n (i := 2) 30 hk dX11_pipe_29 rfl rfl rfl ?_
          refine vv_icmp_ne 37 33 hk dX11_pipe_30 rfl rfl ?_ ?_
          · skip
            exact vv_le (ll_s rfl (ll_s rfl (ll_s rfl (ll_s rfl (ll_n (ll_n ll_0)))))) (hk33 ())
          · skip
            refine vv_iconst 38 hk dX11_pipe_37 rfl ic_0 ?_
            exact vv_le (ll_s rfl (ll_s rfl (ll_s rfl (ll_s rfl (ll_n (ll_n ll_0)))))) (hk38 (0 : Int32))
theorem c_X11_plan (G : GT) (a1 : Int32) (a2 : Int32) (σ : Hp) : CtI G true yX11_plan cX11_plan 4 (some .int) 4 [(rf G 0), (.int a1), (.int a2)] (f_X11_plan a1 a2 σ) σ := by
  refine ctI (L0 := [some (rf G 0), some (.int a1), some (.int a2), none]) (by decide +kernel) rfl rfl rfl (fun κ hk he hret => ?_)
  have hk : KO G κ cX11_plan RX11 4 := hk
  refine vv_aload_n (i := 0) 1 hk dX11_plan_0 rfl rfl rfl ?_
  refine vv_iconst 2 hk dX11_plan_1 rfl ic_0 ?_
  refine vv_iload_n (i := 2) 3 hk dX11_plan_2 rfl rfl rfl ?_
  refine vv_iconst 4 hk dX11_plan_3 rfl ic_2 ?_
  refine vv_staIr (st := [(.int (0 : Int32)), (rf G 0)]) 7 hk he dX11_plan_4 rfl ml_11_99 sf_X11_within (c_X11_within G a2 (2 : Int32) σ) rfl rfl rfl rfl (fun v1 => ?_)
  refine vv_jn (fun t2 => (σ, 15, [some (rf G 0), some (.int a1), some (.int a2), none], [(.int t2), (.int (0 : Int32)), (rf G 0)])) (fun t2 => ?_) (fun k15 hk15 => ?_)
  · skip
    refine vv_iload_n (i := 1) 16 hk dX11_plan_15 rfl rfl rfl ?_
    refine vv_jn (fun t3 => (σ, 24, [some (rf G 0), some (.int a1), some (.int a2), none], [(.int t3), (.int t2), (.int (0 : Int32)), (rf G 0)])) (fun t3 => ?_) (fun k24 hk24 => ?_)
    · skip
      refine vv_iload_n (i := 1) 25 hk dX11_plan_24 rfl rfl rfl ?_
      refine vv_sipush 28 hk dX11_plan_25 rfl sp_9999 ?_
      refine vv_jn (fun t4 => (σ, 36, [some (rf G 0), some (.int a1), some (.int a2), none], [(.int t4), (.int t3), (.int t2), (.int (0 : Int32)), (rf G 0)])) (fun t4 => ?_) (fun k36 hk36 => ?_)
      · skip
        refine vv_invI (st := []) 39 hk he dX11_plan_36 rfl ml_11_107 cf_X11_refusal la_0 ci_11 (c_X11_refusal G (0 : Int32) t2 t3 t4 σ) rfl rfl rfl rfl (fun v5 σ6 => ?_)
        refine vv_istore_n (i := 3) 40 [some (rf G 0), some (.int a1), some (.int a2), some (.int v5)] hk dX11_plan_39 rfl rfl rfl rfl ?_
        refine vv_iload_n (i := 3) 41 hk dX11_plan_40 rfl rfl rfl ?_
        refine vv_jn (fun t7 => (t7.2, 57, [some (rf G 0), none, none, none], [(.int t7.1)])) (fun t7 => ?_) (fun k57 hk57 => ?_)
        · skip
          exact hret _ _ _ _ dX11_plan_57
        · skip
          refine vv_if_eq 48 44 hk dX11_plan_41 rfl rfl ?_ ?_
          · skip
            refine vv_aload_n (i := 0) 49 hk dX11_plan_48 rfl rfl rfl ?_
            refine vv_getR 52 hk dX11_plan_49 rfl la_0 rfl ci_11 rfl fl_11_63 ?_
            refine vv_iload_n (i := 1) 53 hk dX11_plan_52 rfl rfl rfl ?_
            refine vv_iload_n (i := 2) 54 hk dX11_plan_53 rfl rfl rfl ?_
            refine vv_invI (st := []) 57 hk he dX11_plan_54 rfl ml_11_313 cf_X7_cheapest la_54 ci_7 (c_X7_cheapest G a1 a2 σ6) rfl rfl rfl rfl (fun v8 σ9 => ?_)
            exact vv_le (ll_s rfl (ll_n (ll_n (ll_n ll_0)))) (hk57 (v8, σ9))
          · skip
            refine vv_iload_n (i := 3) 45 hk dX11_plan_44 rfl rfl rfl ?_
            refine vv_goto 57 hk dX11_plan_45 rfl ?_
            exact vv_le (ll_s rfl (ll_n (ll_n (ll_n ll_0)))) (hk57 (v5, σ6))
      · skip
        refine vv_icmp_le 35 31 hk dX11_plan_28 rfl rfl ?_ ?_
        · skip
          refine vv_iconst 36 hk dX11_plan_35 rfl ic_0 ?_
          exact vv_le (ll_s rfl (ll_s rfl (ll_s rfl (ll_n ll_0)))) (hk36 (0 : Int32))
        · skip
          refine vv_iconst 32 hk dX11_plan_31 rfl ic_1 ?_
          refine vv_goto 36 hk dX11_plan_32 rfl ?_
          exact vv_le (ll_s rfl (ll_s rfl (ll_s rfl (ll_n ll_0)))) (hk36 (1 : Int32))
    · skip
      refine vv_if_ge 23 19 hk dX11_plan_16 rfl rfl ?_ ?_
      · skip
        refine vv_iconst 24 hk dX11_plan_23 rfl ic_0 ?_
        exact vv_le (ll_s rfl (ll_s rfl (ll_s rfl (ll_n ll_0)))) (hk24 (0 : Int32))
      · skip
        refine vv_iconst 20 hk dX11_plan_19 rfl ic_1 ?_
        refine vv_goto 24 hk dX11_plan_20 rfl ?_
        exact vv_le (ll_s rfl (ll_s rfl (ll_s rfl (ll_n ll_0)))) (hk24 (1 : Int32))
  · skip
    refine vv_if_ne 14 10 hk dX11_plan_7 rfl rfl ?_ ?_
    · skip
      refine vv_iconst 11 hk dX11_plan_10 rfl ic_1 ?_
      refine vv_goto 15 hk dX11_plan_11 rfl ?_
      exact vv_le (ll_s rfl (ll_s rfl (ll_s rfl (ll_n ll_0)))) (hk15 (1 : Int32))
    · skip
      refine vv_iconst 15 hk dX11_plan_14 rfl ic_0 ?_
      exact vv_le (ll_s rfl (ll_s rfl (ll_s rfl (ll_n ll_0)))) (hk15 (0 : Int32))
theorem c_X11_pump (G : GT) (a1 : Int32) (a2 : Int32) (a3 : Int32) (a4 : Int32) (a5 : Int32) (σ : Hp) : CtI G true yX11_pump cX11_pump 8 (some .int) 2 [(rf G 0), (.int a1), (.int a2), (.int a3), (.int a4), (.int a5)] (f_X11_pump a1 a2 a3 a4 a5 σ) σ := by
  refine ctI (L0 := [some (rf G 0), some (.int a1), some (.int a2), some (.int a3), some (.int a4), some (.int a5), none, none]) (by decide +kernel) rfl rfl rfl (fun κ hk he hret => ?_)
  have hk : KO G κ cX11_pump RX11 2 := hk
  refine vv_iload_n (i := 2) 1 hk dX11_pump_0 rfl rfl rfl ?_
  refine vv_bipush 3 hk dX11_pump_1 rfl bp_9 ?_
  refine vv_jn (fun t1 => (σ, 43, [some (rf G 0), some (.int a1), some (.int a2), some (.int a3), some (.int a4), some (.int a5), none, none], [(.int t1)])) (fun t1 => ?_) (fun k43 hk43 => ?_)
  · skip
    refine vv_istore 45 [some (rf G 0), some (.int a1), some (.int a2), some (.int a3), some (.int a4), some (.int a5), some (.int t1), none] hk dX11_pump_43 rfl rfl rfl ?_
    refine vv_aload_n (i := 0) 46 hk dX11_pump_45 rfl rfl rfl ?_
    refine vv_iload_n (i := 1) 47 hk dX11_pump_46 rfl rfl rfl ?_
    refine vv_aload_n (i := 0) 48 hk dX11_pump_47 rfl rfl rfl ?_
    refine vv_getR 51 hk dX11_pump_48 rfl la_0 rfl ci_11 rfl fl_11_10 ?_
    refine vv_getI 54 hk he dX11_pump_51 rfl la_1 rfl ci_5 rfl fl_11_103 sd_1 ?_
    refine vv_staIr (st := [(rf G 0)]) 57 hk he dX11_pump_54 rfl ml_11_99 sf_X11_within (c_X11_within G a1 (σ.1 1 0) σ) rfl rfl rfl rfl (fun v2 => ?_)
    refine vv_jn (fun t3 => (σ, 65, [some (rf G 0), some (.int a1), some (.int a2), some (.int a3), some (.int a4), some (.int a5), some (.int t1), none], [(.int t3), (rf G 0)])) (fun t3 => ?_) (fun k65 hk65 => ?_)
    · skip
      refine vv_iconst 66 hk dX11_pump_65 rfl ic_0 ?_
      refine vv_iload_n (i := 2) 67 hk dX11_pump_66 rfl rfl rfl ?_
      refine vv_jn (fun t4 => (σ, 89, [some (rf G 0), some (.int a1), some (.int a2), some (.int a3), some (.int a4), some (.int a5), some (.int t1), none], [(.int t4), (.int (0 : Int32)), (.int t3), (rf G 0)])) (fun t4 => ?_) (fun k89 hk89 => ?_)
      · skip
        refine vv_iload 91 hk dX11_pump_89 rfl rfl ?_
        refine vv_invI (st := []) 94 hk he dX11_pump_91 rfl ml_11_107 cf_X11_refusal la_0 ci_11 (c_X11_refusal G t3 (0 : Int32) t4 t1 σ) rfl rfl rfl rfl (fun v5 σ6 => ?_)
        refine vv_istore 96 [some (rf G 0), some (.int a1), some (.int a2), some (.int a3), some (.int a4), some (.int a5), some (.int t1), some (.int v5)] hk dX11_pump_94 rfl rfl rfl ?_
        refine vv_iload 98 hk dX11_pump_96 rfl rfl ?_
        refine vv_if_eq 104 101 hk dX11_pump_98 rfl rfl ?_ ?_
        · skip
          refine vv_aload_n (i := 0) 105 hk dX11_pump_104 rfl rfl rfl ?_
          refine vv_getR 108 hk dX11_pump_105 rfl la_0 rfl ci_11 rfl fl_11_29 ?_
          refine vv_invV (st := []) 111 hk he dX11_pump_108 rfl ml_11_111 cf_X0_forget la_25 ci_0 (c_X0_forget G σ6) rfl rfl rfl rfl (fun σ7 => ?_)
          refine vv_aload_n (i := 0) 112 hk dX11_pump_111 rfl rfl rfl ?_
          refine vv_getR 115 hk dX11_pump_112 rfl la_0 rfl ci_11 rfl fl_11_10 ?_
          refine vv_iload_n (i := 1) 116 hk dX11_pump_115 rfl rfl rfl ?_
          refine vv_iload_n (i := 2) 117 hk dX11_pump_116 rfl rfl rfl ?_
          refine vv_iload_n (i := 3) 118 hk dX11_pump_117 rfl rfl rfl ?_
          refine vv_iload 120 hk dX11_pump_118 rfl rfl ?_
          refine vv_iload 122 hk dX11_pump_120 rfl rfl ?_
          refine vv_invI (st := []) 125 hk he dX11_pump_122 rfl ml_11_145 cf_X5_addPump la_1 ci_5 (c_X5_addPump G a1 a2 a3 a4 a5 σ7) rfl rfl rfl rfl (fun v8 σ9 => ?_)
          exact hret _ _ _ _ dX11_pump_125
        · skip
          refine vv_iload 103 hk dX11_pump_101 rfl rfl ?_
          exact hret _ _ _ _ dX11_pump_103
      · skip
        refine vv_jn (fun t10 => (σ, 84, [some (rf G 0), some (.int a1), some (.int a2), some (.int a3), some (.int a4), some (.int a5), some (.int t1), none], [(.int (0 : Int32)), (.int t3), (rf G 0)])) (fun t10 => ?_) (fun k84 hk84 => ?_)
        · skip
          refine vv_iconst 85 hk dX11_pump_84 rfl ic_1 ?_
          refine vv_goto 89 hk dX11_pump_85 rfl ?_
          exact vv_le (ll_s rfl (ll_s rfl (ll_s rfl (ll_s rfl (ll_s rfl (ll_s rfl (ll_s rfl (ll_n ll_0)))))))) (hk89 (1 : Int32))
        · skip
          refine vv_if_lt 84 70 hk dX11_pump_67 rfl rfl ?_ ?_
          · skip
            exact vv_le (ll_s rfl (ll_s rfl (ll_s rfl (ll_s rfl (ll_s rfl (ll_s rfl (ll_s rfl (ll_n ll_0)))))))) (hk84 ())
          · skip
            refine vv_iload_n (i := 3) 71 hk dX11_pump_70 rfl rfl rfl ?_
            refine vv_if_lt 84 74 hk dX11_pump_71 rfl rfl ?_ ?_
            · skip
              exact vv_le (ll_s rfl (ll_s rfl (ll_s rfl (ll_s rfl (ll_s rfl (ll_s rfl (ll_s rfl (ll_n ll_0)))))))) (hk84 ())
            · skip
              refine vv_iload 76 hk dX11_pump_74 rfl rfl ?_
              refine vv_if_lt 84 79 hk dX11_pump_76 rfl rfl ?_ ?_
              · skip
                exact vv_le (ll_s rfl (ll_s rfl (ll_s rfl (ll_s rfl (ll_s rfl (ll_s rfl (ll_s rfl (ll_n ll_0)))))))) (hk84 ())
              · skip
                refine vv_iload 81 hk dX11_pump_79 rfl rfl ?_
                refine vv_if_ge 88 84 hk dX11_pump_81 rfl rfl ?_ ?_
                · skip
                  refine vv_iconst 89 hk dX11_pump_88 rfl ic_0 ?_
                  exact vv_le (ll_s rfl (ll_s rfl (ll_s rfl (ll_s rfl (ll_s rfl (ll_s rfl (ll_s rfl (ll_n ll_0)))))))) (hk89 (0 : Int32))
                · skip
                  exact vv_le (ll_s rfl (ll_s rfl (ll_s rfl (ll_s rfl (ll_s rfl (ll_s rfl (ll_s rfl (ll_n ll_0)))))))) (hk84 ())
    · skip
      refine vv_if_ne 64 60 hk dX11_pump_57 rfl rfl ?_ ?_
      · skip
        refine vv_iconst 61 hk dX11_pump_60 rfl ic_1 ?_
        refine vv_goto 65 hk dX11_pump_61 rfl ?_
        exact vv_le (ll_s rfl (ll_s rfl (ll_s rfl (ll_s rfl (ll_s rfl (ll_s rfl (ll_s rfl (ll_n ll_0)))))))) (hk65 (1 : Int32))
      · skip
        refine vv_iconst 65 hk dX11_pump_64 rfl ic_0 ?_
        exact vv_le (ll_s rfl (ll_s rfl (ll_s rfl (ll_s rfl (ll_s rfl (ll_s rfl (ll_s rfl (ll_n ll_0)))))))) (hk65 (0 : Int32))
  · skip
    refine vv_jn (fun t11 => (σ, 38, [some (rf G 0), some (.int a1), some (.int a2), some (.int a3), some (.int a4), some (.int a5), none, none], [])) (fun t11 => ?_) (fun k38 hk38 => ?_)
    · skip
      refine vv_iconst 39 hk dX11_pump_38 rfl ic_1 ?_
      refine vv_goto 43 hk dX11_pump_39 rfl ?_
      exact vv_le (ll_s rfl (ll_s rfl (ll_s rfl (ll_s rfl (ll_s rfl (ll_s rfl (ll_n (ll_n ll_0)))))))) (hk43 (1 : Int32))
    · skip
      refine vv_icmp_gt 38 6 hk dX11_pump_3 rfl rfl ?_ ?_
      · skip
        exact vv_le (ll_s rfl (ll_s rfl (ll_s rfl (ll_s rfl (ll_s rfl (ll_s rfl (ll_n (ll_n ll_0)))))))) (hk38 ())
      · skip
        refine vv_iload_n (i := 3) 7 hk dX11_pump_6 rfl rfl rfl ?_
        refine vv_bipush 9 hk dX11_pump_7 rfl bp_9 ?_
        refine vv_icmp_gt 38 12 hk dX11_pump_9 rfl rfl ?_ ?_
        · skip
          exact vv_le (ll_s rfl (ll_s rfl (ll_s rfl (ll_s rfl (ll_s rfl (ll_s rfl (ll_n (ll_n ll_0)))))))) (hk38 ())
        · skip
          refine vv_iload 14 hk dX11_pump_12 rfl rfl ?_
          refine vv_bipush 16 hk dX11_pump_14 rfl bp_9 ?_
          refine vv_icmp_gt 38 19 hk dX11_pump_16 rfl rfl ?_ ?_
          · skip
            exact vv_le (ll_s rfl (ll_s rfl (ll_s rfl (ll_s rfl (ll_s rfl (ll_s rfl (ll_n (ll_n ll_0)))))))) (hk38 ())
          · skip
            refine vv_iload 21 hk dX11_pump_19 rfl rfl ?_
            refine vv_ldc 23 hk dX11_pump_21 rfl cw_11_125 ?_
            refine vv_icmp_gt 38 26 hk dX11_pump_23 rfl rfl ?_ ?_
            · skip
              exact vv_le (ll_s rfl (ll_s rfl (ll_s rfl (ll_s rfl (ll_s rfl (ll_s rfl (ll_n (ll_n ll_0)))))))) (hk38 ())
            · skip
              refine vv_aload_n (i := 0) 27 hk dX11_pump_26 rfl rfl rfl ?_
              refine vv_getR 30 hk dX11_pump_27 rfl la_0 rfl ci_11 rfl fl_11_10 ?_
              refine vv_getI 33 hk he dX11_pump_30 rfl la_1 rfl ci_5 rfl fl_11_142 sd_1 ?_
              refine vv_bipush 35 hk dX11_pump_33 rfl bp_8 ?_
              refine vv_icmp_lt 42 38 hk dX11_pump_35 rfl rfl ?_ ?_
              · skip
                refine vv_iconst 43 hk dX11_pump_42 rfl ic_0 ?_
                exact vv_le (ll_s rfl (ll_s rfl (ll_s rfl (ll_s rfl (ll_s rfl (ll_s rfl (ll_n (ll_n ll_0)))))))) (hk43 (0 : Int32))
              · skip
                exact vv_le (ll_s rfl (ll_s rfl (ll_s rfl (ll_s rfl (ll_s rfl (ll_s rfl (ll_n (ll_n ll_0)))))))) (hk38 ())
theorem c_X11_pumpOf (G : GT) (a1 : Int32) (a2 : Int32) (σ : Hp) : CtI G true yX11_pumpOf cX11_pumpOf 4 (some .int) 2 [(rf G 0), (.int a1), (.int a2)] (f_X11_pumpOf a1 a2 σ) σ := by
  refine ctI (L0 := [some (rf G 0), some (.int a1), some (.int a2), none]) (by decide +kernel) rfl rfl rfl (fun κ hk he hret => ?_)
  have hk : KO G κ cX11_pumpOf RX11 2 := hk
  refine vv_aload_n (i := 0) 1 hk dX11_pumpOf_0 rfl rfl rfl ?_
  refine vv_iload_n (i := 1) 2 hk dX11_pumpOf_1 rfl rfl rfl ?_
  refine vv_aload_n (i := 0) 3 hk dX11_pumpOf_2 rfl rfl rfl ?_
  refine vv_getR 6 hk dX11_pumpOf_3 rfl la_0 rfl ci_11 rfl fl_11_10 ?_
  refine vv_getI 9 hk he dX11_pumpOf_6 rfl la_1 rfl ci_5 rfl fl_11_142 sd_1 ?_
  refine vv_staIr (st := [(rf G 0)]) 12 hk he dX11_pumpOf_9 rfl ml_11_99 sf_X11_within (c_X11_within G a1 (σ.1 1 11) σ) rfl rfl rfl rfl (fun v1 => ?_)
  refine vv_jn (fun t2 => (σ, 20, [some (rf G 0), some (.int a1), some (.int a2), none], [(.int t2), (rf G 0)])) (fun t2 => ?_) (fun k20 hk20 => ?_)
  · skip
    refine vv_iload_n (i := 2) 21 hk dX11_pumpOf_20 rfl rfl rfl ?_
    refine vv_bipush 23 hk dX11_pumpOf_21 rfl bp_6 ?_
    refine vv_staIr (st := [(.int t2), (rf G 0)]) 26 hk he dX11_pumpOf_23 rfl ml_11_99 sf_X11_within (c_X11_within G a2 (6 : Int32) σ) rfl rfl rfl rfl (fun v3 => ?_)
    refine vv_jn (fun t4 => (σ, 34, [some (rf G 0), some (.int a1), some (.int a2), none], [(.int t4), (.int t2), (rf G 0)])) (fun t4 => ?_) (fun k34 hk34 => ?_)
    · skip
      refine vv_iconst 35 hk dX11_pumpOf_34 rfl ic_0 ?_
      refine vv_iconst 36 hk dX11_pumpOf_35 rfl ic_0 ?_
      refine vv_invI (st := []) 39 hk he dX11_pumpOf_36 rfl ml_11_107 cf_X11_refusal la_0 ci_11 (c_X11_refusal G t2 t4 (0 : Int32) (0 : Int32) σ) rfl rfl rfl rfl (fun v5 σ6 => ?_)
      refine vv_istore_n (i := 3) 40 [some (rf G 0), some (.int a1), some (.int a2), some (.int v5)] hk dX11_pumpOf_39 rfl rfl rfl rfl ?_
      refine vv_iload_n (i := 3) 41 hk dX11_pumpOf_40 rfl rfl rfl ?_
      refine vv_if_eq 46 44 hk dX11_pumpOf_41 rfl rfl ?_ ?_
      · skip
        refine vv_iload_n (i := 2) 47 hk dX11_pumpOf_46 rfl rfl rfl ?_
        refine vv_if_ne 62 50 hk dX11_pumpOf_47 rfl rfl ?_ ?_
        · skip
          refine vv_aload_n (i := 0) 51 hk dX11_pumpOf_50 rfl rfl rfl ?_
          refine vv_getR 54 hk dX11_pumpOf_51 rfl la_0 rfl ci_11 rfl fl_11_10 ?_
          refine vv_getI 57 hk he dX11_pumpOf_54 rfl la_1 rfl ci_5 rfl fl_11_162 sd_1 ?_
          refine vv_iload_n (i := 1) 58 hk dX11_pumpOf_57 rfl rfl rfl ?_
          refine vv_ishr 59 hk dX11_pumpOf_58 rfl ?_
          refine vv_iconst 60 hk dX11_pumpOf_59 rfl ic_1 ?_
          refine vv_iand 61 hk dX11_pumpOf_60 rfl ?_
          exact hret _ _ _ _ dX11_pumpOf_61
        · skip
          refine vv_iload_n (i := 2) 63 hk dX11_pumpOf_62 rfl rfl rfl ?_
          refine vv_iconst 64 hk dX11_pumpOf_63 rfl ic_4 ?_
          refine vv_icmp_ne 79 67 hk dX11_pumpOf_64 rfl rfl ?_ ?_
          · skip
            refine vv_aload_n (i := 0) 68 hk dX11_pumpOf_67 rfl rfl rfl ?_
            refine vv_getR 71 hk dX11_pumpOf_68 rfl la_0 rfl ci_11 rfl fl_11_19 ?_
            refine vv_getI 74 hk he dX11_pumpOf_71 rfl la_13 rfl ci_4 rfl fl_11_165 sd_13 ?_
            refine vv_iload_n (i := 1) 75 hk dX11_pumpOf_74 rfl rfl rfl ?_
            refine vv_ishr 76 hk dX11_pumpOf_75 rfl ?_
            refine vv_iconst 77 hk dX11_pumpOf_76 rfl ic_1 ?_
            refine vv_iand 78 hk dX11_pumpOf_77 rfl ?_
            exact hret _ _ _ _ dX11_pumpOf_78
          · skip
            refine vv_iload_n (i := 2) 80 hk dX11_pumpOf_79 rfl rfl rfl ?_
            refine vv_iconst 81 hk dX11_pumpOf_80 rfl ic_5 ?_
            refine vv_jn (fun t7 => (σ6, 111, [some (rf G 0), none, none, none], [(.int t7)])) (fun t7 => ?_) (fun k111 hk111 => ?_)
            · skip
              exact hret _ _ _ _ dX11_pumpOf_111
            · skip
              refine vv_icmp_ne 96 84 hk dX11_pumpOf_81 rfl rfl ?_ ?_
              · skip
                refine vv_aload_n (i := 0) 85 hk dX11_pumpOf_84 rfl rfl rfl ?_
                refine vv_getR 88 hk dX11_pumpOf_85 rfl la_0 rfl ci_11 rfl fl_11_10 ?_
                refine vv_getR 91 hk dX11_pumpOf_88 rfl la_1 rfl ci_5 rfl fl_11_168 ?_
                refine vv_iload_n (i := 1) 92 hk dX11_pumpOf_91 rfl rfl rfl ?_
                refine vv_iald 93 hk he dX11_pumpOf_92 rfl la_12 sd_12 (fun v8 => ?_)
                refine vv_goto 111 hk dX11_pumpOf_93 rfl ?_
                exact vv_le (ll_s rfl (ll_n (ll_n (ll_n ll_0)))) (hk111 v8)
              · skip
                refine vv_aload_n (i := 0) 97 hk dX11_pumpOf_96 rfl rfl rfl ?_
                refine vv_getR 100 hk dX11_pumpOf_97 rfl la_0 rfl ci_11 rfl fl_11_19 ?_
                refine vv_getR 103 hk dX11_pumpOf_100 rfl la_13 rfl ci_4 rfl fl_11_171 ?_
                refine vv_iload_n (i := 1) 104 hk dX11_pumpOf_103 rfl rfl rfl ?_
                refine vv_iconst 105 hk dX11_pumpOf_104 rfl ic_3 ?_
                refine vv_imul 106 hk dX11_pumpOf_105 rfl ?_
                refine vv_iload_n (i := 2) 107 hk dX11_pumpOf_106 rfl rfl rfl ?_
                refine vv_iadd 108 hk dX11_pumpOf_107 rfl ?_
                refine vv_iconst 109 hk dX11_pumpOf_108 rfl ic_1 ?_
                refine vv_isub 110 hk dX11_pumpOf_109 rfl ?_
                refine vv_iald 111 hk he dX11_pumpOf_110 rfl la_16 sd_16 (fun v9 => ?_)
                exact vv_le (ll_s rfl (ll_n (ll_n (ll_n ll_0)))) (hk111 v9)
      · skip
        refine vv_iload_n (i := 3) 45 hk dX11_pumpOf_44 rfl rfl rfl ?_
        exact hret _ _ _ _ dX11_pumpOf_45
    · skip
      refine vv_if_ne 33 29 hk dX11_pumpOf_26 rfl rfl ?_ ?_
      · skip
        refine vv_iconst 30 hk dX11_pumpOf_29 rfl ic_1 ?_
        refine vv_goto 34 hk dX11_pumpOf_30 rfl ?_
        exact vv_le (ll_s rfl (ll_s rfl (ll_s rfl (ll_n ll_0)))) (hk34 (1 : Int32))
      · skip
        refine vv_iconst 34 hk dX11_pumpOf_33 rfl ic_0 ?_
        exact vv_le (ll_s rfl (ll_s rfl (ll_s rfl (ll_n ll_0)))) (hk34 (0 : Int32))
  · skip
    refine vv_if_ne 19 15 hk dX11_pumpOf_12 rfl rfl ?_ ?_
    · skip
      refine vv_iconst 16 hk dX11_pumpOf_15 rfl ic_1 ?_
      refine vv_goto 20 hk dX11_pumpOf_16 rfl ?_
      exact vv_le (ll_s rfl (ll_s rfl (ll_s rfl (ll_n ll_0)))) (hk20 (1 : Int32))
    · skip
      refine vv_iconst 20 hk dX11_pumpOf_19 rfl ic_0 ?_
      exact vv_le (ll_s rfl (ll_s rfl (ll_s rfl (ll_n ll_0)))) (hk20 (0 : Int32))
theorem c_X11_reading (G : GT) (a1 : Int32) (a2 : Int32) (σ : Hp) : CtI G true yX11_reading cX11_reading 4 (some .int) 2 [(rf G 0), (.int a1), (.int a2)] (f_X11_reading a1 a2 σ) σ := by
  refine ctI (L0 := [some (rf G 0), some (.int a1), some (.int a2), none]) (by decide +kernel) rfl rfl rfl (fun κ hk he hret => ?_)
  have hk : KO G κ cX11_reading RX11 2 := hk
  refine vv_aload_n (i := 0) 1 hk dX11_reading_0 rfl rfl rfl ?_
  refine vv_iload_n (i := 1) 2 hk dX11_reading_1 rfl rfl rfl ?_
  refine vv_iconst 3 hk dX11_reading_2 rfl ic_3 ?_
  refine vv_staIr (st := [(rf G 0)]) 6 hk he dX11_reading_3 rfl ml_11_99 sf_X11_within (c_X11_within G a1 (3 : Int32) σ) rfl rfl rfl rfl (fun v1 => ?_)
  refine vv_jn (fun t2 => (σ, 14, [some (rf G 0), some (.int a1), some (.int a2), none], [(.int t2), (rf G 0)])) (fun t2 => ?_) (fun k14 hk14 => ?_)
  · skip
    refine vv_iconst 15 hk dX11_reading_14 rfl ic_0 ?_
    refine vv_iload_n (i := 2) 16 hk dX11_reading_15 rfl rfl rfl ?_
    refine vv_iconst 17 hk dX11_reading_16 rfl ic_m1 ?_
    refine vv_jn (fun t3 => (σ, 25, [some (rf G 0), some (.int a1), some (.int a2), none], [(.int t3), (.int (0 : Int32)), (.int t2), (rf G 0)])) (fun t3 => ?_) (fun k25 hk25 => ?_)
    · skip
      refine vv_iload_n (i := 2) 26 hk dX11_reading_25 rfl rfl rfl ?_
      refine vv_sipush 29 hk dX11_reading_26 rfl sp_9999 ?_
      refine vv_jn (fun t4 => (σ, 37, [some (rf G 0), some (.int a1), some (.int a2), none], [(.int t4), (.int t3), (.int (0 : Int32)), (.int t2), (rf G 0)])) (fun t4 => ?_) (fun k37 hk37 => ?_)
      · skip
        refine vv_invI (st := []) 40 hk he dX11_reading_37 rfl ml_11_107 cf_X11_refusal la_0 ci_11 (c_X11_refusal G t2 (0 : Int32) t3 t4 σ) rfl rfl rfl rfl (fun v5 σ6 => ?_)
        refine vv_istore_n (i := 3) 41 [some (rf G 0), some (.int a1), some (.int a2), some (.int v5)] hk dX11_reading_40 rfl rfl rfl rfl ?_
        refine vv_iload_n (i := 3) 42 hk dX11_reading_41 rfl rfl rfl ?_
        refine vv_if_eq 47 45 hk dX11_reading_42 rfl rfl ?_ ?_
        · skip
          refine vv_aload_n (i := 0) 48 hk dX11_reading_47 rfl rfl rfl ?_
          refine vv_getR 51 hk dX11_reading_48 rfl la_0 rfl ci_11 rfl fl_11_77 ?_
          refine vv_getR 54 hk dX11_reading_51 rfl la_67 rfl ci_3 rfl fl_11_261 ?_
          refine vv_iload_n (i := 1) 55 hk dX11_reading_54 rfl rfl rfl ?_
          refine vv_iload_n (i := 2) 56 hk dX11_reading_55 rfl rfl rfl ?_
          refine vv_iast 57 hk he dX11_reading_56 rfl la_69 sd_69 (fun σ7 => ?_)
          refine vv_iconst 58 hk dX11_reading_57 rfl ic_1 ?_
          exact hret _ _ _ _ dX11_reading_58
        · skip
          refine vv_iload_n (i := 3) 46 hk dX11_reading_45 rfl rfl rfl ?_
          exact hret _ _ _ _ dX11_reading_46
      · skip
        refine vv_icmp_le 36 32 hk dX11_reading_29 rfl rfl ?_ ?_
        · skip
          refine vv_iconst 37 hk dX11_reading_36 rfl ic_0 ?_
          exact vv_le (ll_s rfl (ll_s rfl (ll_s rfl (ll_n ll_0)))) (hk37 (0 : Int32))
        · skip
          refine vv_iconst 33 hk dX11_reading_32 rfl ic_1 ?_
          refine vv_goto 37 hk dX11_reading_33 rfl ?_
          exact vv_le (ll_s rfl (ll_s rfl (ll_s rfl (ll_n ll_0)))) (hk37 (1 : Int32))
    · skip
      refine vv_icmp_ge 24 20 hk dX11_reading_17 rfl rfl ?_ ?_
      · skip
        refine vv_iconst 25 hk dX11_reading_24 rfl ic_0 ?_
        exact vv_le (ll_s rfl (ll_s rfl (ll_s rfl (ll_n ll_0)))) (hk25 (0 : Int32))
      · skip
        refine vv_iconst 21 hk dX11_reading_20 rfl ic_1 ?_
        refine vv_goto 25 hk dX11_reading_21 rfl ?_
        exact vv_le (ll_s rfl (ll_s rfl (ll_s rfl (ll_n ll_0)))) (hk25 (1 : Int32))
  · skip
    refine vv_if_ne 13 9 hk dX11_reading_6 rfl rfl ?_ ?_
    · skip
      refine vv_iconst 10 hk dX11_reading_9 rfl ic_1 ?_
      refine vv_goto 14 hk dX11_reading_10 rfl ?_
      exact vv_le (ll_s rfl (ll_s rfl (ll_s rfl (ll_n ll_0)))) (hk14 (1 : Int32))
    · skip
      refine vv_iconst 14 hk dX11_reading_13 rfl ic_0 ?_
      exact vv_le (ll_s rfl (ll_s rfl (ll_s rfl (ll_n ll_0)))) (hk14 (0 : Int32))
theorem c_X11_reads (G : GT) (a1 : Int32) (a2 : Int32) (σ : Hp) : CtI G true yX11_reads cX11_reads 3 (some .int) 2 [(rf G 0), (.int a1), (.int a2)] (f_X11_reads a1 a2 σ) σ := by
  refine ctI (L0 := [some (rf G 0), some (.int a1), some (.int a2)]) (by decide +kernel) rfl rfl rfl (fun κ hk he hret => ?_)
  have hk : KO G κ cX11_reads RX11 2 := hk
  refine vv_iload_n (i := 1) 1 hk dX11_reads_0 rfl rfl rfl ?_
  refine vv_iconst 2 hk dX11_reads_1 rfl ic_3 ?_
  refine vv_staIr (st := []) 5 hk he dX11_reads_2 rfl ml_11_99 sf_X11_within (c_X11_within G a1 (3 : Int32) σ) rfl rfl rfl rfl (fun v1 => ?_)
  refine vv_jn (fun t2 => (σ, 22, [some (rf G 0), none, none], [])) (fun t2 => ?_) (fun k22 hk22 => ?_)
  · skip
    refine vv_aload_n (i := 0) 23 hk dX11_reads_22 rfl rfl rfl ?_
    refine vv_iconst 24 hk dX11_reads_23 rfl ic_m1 ?_
    refine vv_invI (st := []) 27 hk he dX11_reads_24 rfl ml_11_193 cf_X11_refuse la_0 ci_11 (c_X11_refuse G (-1 : Int32) σ) rfl rfl rfl rfl (fun v3 σ4 => ?_)
    exact hret _ _ _ _ dX11_reads_27
  · skip
    refine vv_if_eq 22 8 hk dX11_reads_5 rfl rfl ?_ ?_
    · skip
      exact vv_le (ll_s rfl (ll_n (ll_n ll_0))) (hk22 ())
    · skip
      refine vv_iload_n (i := 2) 9 hk dX11_reads_8 rfl rfl rfl ?_
      refine vv_aload_n (i := 0) 10 hk dX11_reads_9 rfl rfl rfl ?_
      refine vv_getR 13 hk dX11_reads_10 rfl la_0 rfl ci_11 rfl fl_11_10 ?_
      refine vv_getI 16 hk he dX11_reads_13 rfl la_1 rfl ci_5 rfl fl_11_103 sd_1 ?_
      refine vv_staIr (st := []) 19 hk he dX11_reads_16 rfl ml_11_99 sf_X11_within (c_X11_within G a2 (σ.1 1 0) σ) rfl rfl rfl rfl (fun v5 => ?_)
      refine vv_if_ne 28 22 hk dX11_reads_19 rfl rfl ?_ ?_
      · skip
        exact vv_le (ll_s rfl (ll_n (ll_n ll_0))) (hk22 ())
      · skip
        refine vv_aload_n (i := 0) 29 hk dX11_reads_28 rfl rfl rfl ?_
        refine vv_getR 32 hk dX11_reads_29 rfl la_0 rfl ci_11 rfl fl_11_77 ?_
        refine vv_iload_n (i := 1) 33 hk dX11_reads_32 rfl rfl rfl ?_
        refine vv_aload_n (i := 0) 34 hk dX11_reads_33 rfl rfl rfl ?_
        refine vv_getR 37 hk dX11_reads_34 rfl la_0 rfl ci_11 rfl fl_11_19 ?_
        refine vv_iload_n (i := 2) 38 hk dX11_reads_37 rfl rfl rfl ?_
        refine vv_invIr (st := []) 41 hk he dX11_reads_38 rfl ml_11_257 cf_X3_shown la_67 ci_3 (c_X3_shown G a1 a2 σ) rfl rfl rfl rfl (fun v6 => ?_)
        exact hret _ _ _ _ dX11_reads_41
theorem c_X11_redo (G : GT) (σ : Hp) : CtI G true yX11_redo cX11_redo 1 (some .int) 1 [(rf G 0)] (f_X11_redo σ) σ := by
  refine ctI (L0 := [some (rf G 0)]) (by decide +kernel) rfl rfl rfl (fun κ hk he hret => ?_)
  have hk : KO G κ cX11_redo RX11 1 := hk
  refine vv_aload_n (i := 0) 1 hk dX11_redo_0 rfl rfl rfl ?_
  refine vv_getR 4 hk dX11_redo_1 rfl la_0 rfl ci_11 rfl fl_11_29 ?_
  refine vv_aload_n (i := 0) 5 hk dX11_redo_4 rfl rfl rfl ?_
  refine vv_getR 8 hk dX11_redo_5 rfl la_0 rfl ci_11 rfl fl_11_10 ?_
  refine vv_aload_n (i := 0) 9 hk dX11_redo_8 rfl rfl rfl ?_
  refine vv_getR 12 hk dX11_redo_9 rfl la_0 rfl ci_11 rfl fl_11_19 ?_
  refine vv_invI (st := []) 15 hk he dX11_redo_12 rfl ml_11_231 cf_X0_repeat la_25 ci_0 (c_X0_repeat G σ) rfl rfl rfl rfl (fun v1 σ2 => ?_)
  refine vv_jn (fun t3 => (t3.2, 28, [some (rf G 0)], [(.int t3.1)])) (fun t3 => ?_) (fun k28 hk28 => ?_)
  · skip
    exact hret _ _ _ _ dX11_redo_28
  · skip
    refine vv_if_eq 22 18 hk dX11_redo_15 rfl rfl ?_ ?_
    · skip
      refine vv_aload_n (i := 0) 23 hk dX11_redo_22 rfl rfl rfl ?_
      refine vv_bipush 25 hk dX11_redo_23 rfl bp_m3 ?_
      refine vv_invI (st := []) 28 hk he dX11_redo_25 rfl ml_11_193 cf_X11_refuse la_0 ci_11 (c_X11_refuse G (-3 : Int32) σ2) rfl rfl rfl rfl (fun v4 σ5 => ?_)
      exact vv_le (ll_s rfl ll_0) (hk28 (v4, σ5))
    · skip
      refine vv_iconst 19 hk dX11_redo_18 rfl ic_1 ?_
      refine vv_goto 28 hk dX11_redo_19 rfl ?_
      exact vv_le (ll_s rfl ll_0) (hk28 ((1 : Int32), σ2))
theorem c_X11_rest (G : GT) (a1 : Int32) (a2 : Int32) (a3 : Int32) (σ : Hp) : CtJ G true yX11_rest cX11_rest 5 (some .long) 3 [(rf G 0), (.int a1), (.int a2), (.int a3)] (f_X11_rest a1 a2 a3 σ) σ := by
  refine ctJ (L0 := [some (rf G 0), some (.int a1), some (.int a2), some (.int a3), none]) (by decide +kernel) rfl rfl rfl (fun κ hk he hret => ?_)
  have hk : KO G κ cX11_rest RX11 3 := hk
  refine vv_aload_n (i := 0) 1 hk dX11_rest_0 rfl rfl rfl ?_
  refine vv_iload_n (i := 1) 2 hk dX11_rest_1 rfl rfl rfl ?_
  refine vv_aload_n (i := 0) 3 hk dX11_rest_2 rfl rfl rfl ?_
  refine vv_getR 6 hk dX11_rest_3 rfl la_0 rfl ci_11 rfl fl_11_10 ?_
  refine vv_getI 9 hk he dX11_rest_6 rfl la_1 rfl ci_5 rfl fl_11_103 sd_1 ?_
  refine vv_staIr (st := [(rf G 0)]) 12 hk he dX11_rest_9 rfl ml_11_99 sf_X11_within (c_X11_within G a1 (σ.1 1 0) σ) rfl rfl rfl rfl (fun v1 => ?_)
  refine vv_jn (fun t2 => (σ, 28, [some (rf G 0), some (.int a1), some (.int a2), some (.int a3), none], [(.int t2), (rf G 0)])) (fun t2 => ?_) (fun k28 hk28 => ?_)
  · skip
    refine vv_iload_n (i := 3) 29 hk dX11_rest_28 rfl rfl rfl ?_
    refine vv_iconst 30 hk dX11_rest_29 rfl ic_2 ?_
    refine vv_staIr (st := [(.int t2), (rf G 0)]) 33 hk he dX11_rest_30 rfl ml_11_99 sf_X11_within (c_X11_within G a3 (2 : Int32) σ) rfl rfl rfl rfl (fun v3 => ?_)
    refine vv_jn (fun t4 => (σ, 41, [some (rf G 0), some (.int a1), some (.int a2), some (.int a3), none], [(.int t4), (.int t2), (rf G 0)])) (fun t4 => ?_) (fun k41 hk41 => ?_)
    · skip
      refine vv_iconst 42 hk dX11_rest_41 rfl ic_0 ?_
      refine vv_iconst 43 hk dX11_rest_42 rfl ic_0 ?_
      refine vv_invI (st := []) 46 hk he dX11_rest_43 rfl ml_11_107 cf_X11_refusal la_0 ci_11 (c_X11_refusal G t2 t4 (0 : Int32) (0 : Int32) σ) rfl rfl rfl rfl (fun v5 σ6 => ?_)
      refine vv_istore 48 [some (rf G 0), some (.int a1), some (.int a2), some (.int a3), some (.int v5)] hk dX11_rest_46 rfl rfl rfl ?_
      refine vv_iload 50 hk dX11_rest_48 rfl rfl ?_
      refine vv_jn (fun t7 => (t7.2, 69, [some (rf G 0), none, none, none, none], [(.long t7.1)])) (fun t7 => ?_) (fun k69 hk69 => ?_)
      · skip
        exact hret _ _ _ _ dX11_rest_69
      · skip
        refine vv_if_eq 59 53 hk dX11_rest_50 rfl rfl ?_ ?_
        · skip
          refine vv_aload_n (i := 0) 60 hk dX11_rest_59 rfl rfl rfl ?_
          refine vv_getR 63 hk dX11_rest_60 rfl la_0 rfl ci_11 rfl fl_11_63 ?_
          refine vv_iload_n (i := 1) 64 hk dX11_rest_63 rfl rfl rfl ?_
          refine vv_iload_n (i := 2) 65 hk dX11_rest_64 rfl rfl rfl ?_
          refine vv_iload_n (i := 3) 66 hk dX11_rest_65 rfl rfl rfl ?_
          refine vv_invJ (st := []) 69 hk he dX11_rest_66 rfl ml_11_243 cf_X7_fraction la_54 ci_7 (c_X7_fraction G a1 a2 a3 σ6) rfl rfl rfl rfl (fun v8 σ9 => ?_)
          exact vv_le (ll_s rfl (ll_n (ll_n (ll_n (ll_n ll_0))))) (hk69 (v8, σ9))
        · skip
          refine vv_iload 55 hk dX11_rest_53 rfl rfl ?_
          refine vv_i2l 56 hk dX11_rest_55 rfl ?_
          refine vv_goto 69 hk dX11_rest_56 rfl ?_
          exact vv_le (ll_s rfl (ll_n (ll_n (ll_n (ll_n ll_0))))) (hk69 (v5.toInt64, σ6))
    · skip
      refine vv_if_ne 40 36 hk dX11_rest_33 rfl rfl ?_ ?_
      · skip
        refine vv_iconst 37 hk dX11_rest_36 rfl ic_1 ?_
        refine vv_goto 41 hk dX11_rest_37 rfl ?_
        exact vv_le (ll_s rfl (ll_s rfl (ll_s rfl (ll_s rfl (ll_n ll_0))))) (hk41 (1 : Int32))
      · skip
        refine vv_iconst 41 hk dX11_rest_40 rfl ic_0 ?_
        exact vv_le (ll_s rfl (ll_s rfl (ll_s rfl (ll_s rfl (ll_n ll_0))))) (hk41 (0 : Int32))
  · skip
    refine vv_jn (fun t10 => (σ, 23, [some (rf G 0), some (.int a1), some (.int a2), some (.int a3), none], [(rf G 0)])) (fun t10 => ?_) (fun k23 hk23 => ?_)
    · skip
      refine vv_iconst 24 hk dX11_rest_23 rfl ic_1 ?_
      refine vv_goto 28 hk dX11_rest_24 rfl ?_
      exact vv_le (ll_s rfl (ll_s rfl (ll_s rfl (ll_s rfl (ll_n ll_0))))) (hk28 (1 : Int32))
    · skip
      refine vv_if_eq 23 15 hk dX11_rest_12 rfl rfl ?_ ?_
      · skip
        exact vv_le (ll_s rfl (ll_s rfl (ll_s rfl (ll_s rfl (ll_n ll_0))))) (hk23 ())
      · skip
        refine vv_iload_n (i := 2) 16 hk dX11_rest_15 rfl rfl rfl ?_
        refine vv_iconst 17 hk dX11_rest_16 rfl ic_3 ?_
        refine vv_staIr (st := [(rf G 0)]) 20 hk he dX11_rest_17 rfl ml_11_99 sf_X11_within (c_X11_within G a2 (3 : Int32) σ) rfl rfl rfl rfl (fun v11 => ?_)
        refine vv_if_ne 27 23 hk dX11_rest_20 rfl rfl ?_ ?_
        · skip
          exact vv_le (ll_s rfl (ll_s rfl (ll_s rfl (ll_s rfl (ll_n ll_0))))) (hk23 ())
        · skip
          refine vv_iconst 28 hk dX11_rest_27 rfl ic_0 ?_
          exact vv_le (ll_s rfl (ll_s rfl (ll_s rfl (ll_s rfl (ll_n ll_0))))) (hk28 (0 : Int32))
theorem c_X11_restCold (G : GT) (a1 : Int32) (σ : Hp) : CtI G true yX11_restCold cX11_restCold 2 (some .int) 3 [(rf G 0), (.int a1)] (f_X11_restCold a1 σ) σ := by
  refine ctI (L0 := [some (rf G 0), some (.int a1)]) (by decide +kernel) rfl rfl rfl (fun κ hk he hret => ?_)
  have hk : KO G κ cX11_restCold RX11 3 := hk
  refine vv_iload_n (i := 1) 1 hk dX11_restCold_0 rfl rfl rfl ?_
  refine vv_iconst 2 hk dX11_restCold_1 rfl ic_4 ?_
  refine vv_staIr (st := []) 5 hk he dX11_restCold_2 rfl ml_11_99 sf_X11_within (c_X11_within G a1 (4 : Int32) σ) rfl rfl rfl rfl (fun v1 => ?_)
  refine vv_jn (fun t2 => (t2.2, 24, [some (rf G 0), none], [(.int t2.1)])) (fun t2 => ?_) (fun k24 hk24 => ?_)
  · skip
    exact hret _ _ _ _ dX11_restCold_24
  · skip
    refine vv_if_eq 19 8 hk dX11_restCold_5 rfl rfl ?_ ?_
    · skip
      refine vv_aload_n (i := 0) 20 hk dX11_restCold_19 rfl rfl rfl ?_
      refine vv_iconst 21 hk dX11_restCold_20 rfl ic_m1 ?_
      refine vv_invI (st := []) 24 hk he dX11_restCold_21 rfl ml_11_193 cf_X11_refuse la_0 ci_11 (c_X11_refuse G (-1 : Int32) σ) rfl rfl rfl rfl (fun v3 σ4 => ?_)
      exact vv_le (ll_s rfl (ll_n ll_0)) (hk24 (v3, σ4))
    · skip
      refine vv_aload_n (i := 0) 9 hk dX11_restCold_8 rfl rfl rfl ?_
      refine vv_getR 12 hk dX11_restCold_9 rfl la_0 rfl ci_11 rfl fl_11_84 ?_
      refine vv_iload_n (i := 1) 13 hk dX11_restCold_12 rfl rfl rfl ?_
      refine vv_invIr (st := []) 16 hk he dX11_restCold_13 rfl ml_11_274 cf_X1_degree la_72 ci_1 (c_X1_degree G a1 σ) rfl rfl rfl rfl (fun v5 => ?_)
      refine vv_goto 24 hk dX11_restCold_16 rfl ?_
      exact vv_le (ll_s rfl (ll_n ll_0)) (hk24 (v5, σ))
theorem c_X11_room (G : GT) (a1 : Int32) (a2 : Int32) (σ : Hp) : CtI G true yX11_room cX11_room 4 (some .int) 2 [(rf G 0), (.int a1), (.int a2)] (f_X11_room a1 a2 σ) σ := by
  refine ctI (L0 := [some (rf G 0), some (.int a1), some (.int a2), none]) (by decide +kernel) rfl rfl rfl (fun κ hk he hret => ?_)
  have hk : KO G κ cX11_room RX11 2 := hk
  refine vv_aload_n (i := 0) 1 hk dX11_room_0 rfl rfl rfl ?_
  refine vv_iload_n (i := 2) 2 hk dX11_room_1 rfl rfl rfl ?_
  refine vv_iconst 3 hk dX11_room_2 rfl ic_4 ?_
  refine vv_staIr (st := [(rf G 0)]) 6 hk he dX11_room_3 rfl ml_11_99 sf_X11_within (c_X11_within G a2 (4 : Int32) σ) rfl rfl rfl rfl (fun v1 => ?_)
  refine vv_jn (fun t2 => (σ, 14, [some (rf G 0), some (.int a1), some (.int a2), none], [(.int t2), (rf G 0)])) (fun t2 => ?_) (fun k14 hk14 => ?_)
  · skip
    refine vv_iconst 15 hk dX11_room_14 rfl ic_0 ?_
    refine vv_iload_n (i := 1) 16 hk dX11_room_15 rfl rfl rfl ?_
    refine vv_iconst 17 hk dX11_room_16 rfl ic_1 ?_
    refine vv_jn (fun t3 => (σ, 25, [some (rf G 0), some (.int a1), some (.int a2), none], [(.int t3), (.int (0 : Int32)), (.int t2), (rf G 0)])) (fun t3 => ?_) (fun k25 hk25 => ?_)
    · skip
      refine vv_iload_n (i := 1) 26 hk dX11_room_25 rfl rfl rfl ?_
      refine vv_bipush 28 hk dX11_room_26 rfl bp_99 ?_
      refine vv_jn (fun t4 => (σ, 47, [some (rf G 0), some (.int a1), some (.int a2), none], [(.int t4), (.int t3), (.int (0 : Int32)), (.int t2), (rf G 0)])) (fun t4 => ?_) (fun k47 hk47 => ?_)
      · skip
        refine vv_invI (st := []) 50 hk he dX11_room_47 rfl ml_11_107 cf_X11_refusal la_0 ci_11 (c_X11_refusal G t2 (0 : Int32) t3 t4 σ) rfl rfl rfl rfl (fun v5 σ6 => ?_)
        refine vv_istore_n (i := 3) 51 [some (rf G 0), some (.int a1), some (.int a2), some (.int v5)] hk dX11_room_50 rfl rfl rfl rfl ?_
        refine vv_iload_n (i := 3) 52 hk dX11_room_51 rfl rfl rfl ?_
        refine vv_if_eq 57 55 hk dX11_room_52 rfl rfl ?_ ?_
        · skip
          refine vv_aload_n (i := 0) 58 hk dX11_room_57 rfl rfl rfl ?_
          refine vv_getR 61 hk dX11_room_58 rfl la_0 rfl ci_11 rfl fl_11_29 ?_
          refine vv_invV (st := []) 64 hk he dX11_room_61 rfl ml_11_111 cf_X0_forget la_25 ci_0 (c_X0_forget G σ6) rfl rfl rfl rfl (fun σ7 => ?_)
          refine vv_aload_n (i := 0) 65 hk dX11_room_64 rfl rfl rfl ?_
          refine vv_getR 68 hk dX11_room_65 rfl la_0 rfl ci_11 rfl fl_11_10 ?_
          refine vv_iload_n (i := 1) 69 hk dX11_room_68 rfl rfl rfl ?_
          refine vv_iload_n (i := 2) 70 hk dX11_room_69 rfl rfl rfl ?_
          refine vv_invI (st := []) 73 hk he dX11_room_70 rfl ml_11_114 cf_X5_addRoom la_1 ci_5 (c_X5_addRoom G a1 a2 σ7) rfl rfl rfl rfl (fun v8 σ9 => ?_)
          exact hret _ _ _ _ dX11_room_73
        · skip
          refine vv_iload_n (i := 3) 56 hk dX11_room_55 rfl rfl rfl ?_
          exact hret _ _ _ _ dX11_room_56
      · skip
        refine vv_jn (fun t10 => (σ, 42, [some (rf G 0), some (.int a1), some (.int a2), none], [(.int t3), (.int (0 : Int32)), (.int t2), (rf G 0)])) (fun t10 => ?_) (fun k42 hk42 => ?_)
        · skip
          refine vv_iconst 43 hk dX11_room_42 rfl ic_1 ?_
          refine vv_goto 47 hk dX11_room_43 rfl ?_
          exact vv_le (ll_s rfl (ll_s rfl (ll_s rfl (ll_n ll_0)))) (hk47 (1 : Int32))
        · skip
          refine vv_icmp_gt 42 31 hk dX11_room_28 rfl rfl ?_ ?_
          · skip
            exact vv_le (ll_s rfl (ll_s rfl (ll_s rfl (ll_n ll_0)))) (hk42 ())
          · skip
            refine vv_aload_n (i := 0) 32 hk dX11_room_31 rfl rfl rfl ?_
            refine vv_getR 35 hk dX11_room_32 rfl la_0 rfl ci_11 rfl fl_11_10 ?_
            refine vv_getI 38 hk he dX11_room_35 rfl la_1 rfl ci_5 rfl fl_11_103 sd_1 ?_
            refine vv_iconst 39 hk dX11_room_38 rfl ic_5 ?_
            refine vv_icmp_lt 46 42 hk dX11_room_39 rfl rfl ?_ ?_
            · skip
              refine vv_iconst 47 hk dX11_room_46 rfl ic_0 ?_
              exact vv_le (ll_s rfl (ll_s rfl (ll_s rfl (ll_n ll_0)))) (hk47 (0 : Int32))
            · skip
              exact vv_le (ll_s rfl (ll_s rfl (ll_s rfl (ll_n ll_0)))) (hk42 ())
    · skip
      refine vv_icmp_ge 24 20 hk dX11_room_17 rfl rfl ?_ ?_
      · skip
        refine vv_iconst 25 hk dX11_room_24 rfl ic_0 ?_
        exact vv_le (ll_s rfl (ll_s rfl (ll_s rfl (ll_n ll_0)))) (hk25 (0 : Int32))
      · skip
        refine vv_iconst 21 hk dX11_room_20 rfl ic_1 ?_
        refine vv_goto 25 hk dX11_room_21 rfl ?_
        exact vv_le (ll_s rfl (ll_s rfl (ll_s rfl (ll_n ll_0)))) (hk25 (1 : Int32))
  · skip
    refine vv_if_ne 13 9 hk dX11_room_6 rfl rfl ?_ ?_
    · skip
      refine vv_iconst 10 hk dX11_room_9 rfl ic_1 ?_
      refine vv_goto 14 hk dX11_room_10 rfl ?_
      exact vv_le (ll_s rfl (ll_s rfl (ll_s rfl (ll_n ll_0)))) (hk14 (1 : Int32))
    · skip
      refine vv_iconst 14 hk dX11_room_13 rfl ic_0 ?_
      exact vv_le (ll_s rfl (ll_s rfl (ll_s rfl (ll_n ll_0)))) (hk14 (0 : Int32))
theorem c_X11_rule (G : GT) (σ : Hp) : CtI G true yX11_rule cX11_rule 3 (some .int) 30 [(rf G 0)] (f_X11_rule σ) σ := by
  refine ctI (L0 := [some (rf G 0), none, none]) (by decide +kernel) rfl rfl rfl (fun κ hk he hret => ?_)
  have hk : KO G κ cX11_rule RX11 30 := hk
  refine vv_aload_n (i := 0) 1 hk dX11_rule_0 rfl rfl rfl ?_
  refine vv_getR 4 hk dX11_rule_1 rfl la_0 rfl ci_11 rfl fl_11_45 ?_
  refine vv_getI 7 hk he dX11_rule_4 rfl la_32 rfl ci_8 rfl fl_11_190 sd_32 ?_
  refine vv_bipush 9 hk dX11_rule_7 rfl bp_16 ?_
  refine vv_icmp_lt 19 12 hk dX11_rule_9 rfl rfl ?_ ?_
  · skip
    refine vv_aload_n (i := 0) 20 hk dX11_rule_19 rfl rfl rfl ?_
    refine vv_getR 23 hk dX11_rule_20 rfl la_0 rfl ci_11 rfl fl_11_36 ?_
    refine vv_invI (st := []) 26 hk he dX11_rule_23 rfl ml_11_197 cf_X6_parses la_29 ci_6 (c_X6_parses G σ) rfl rfl rfl rfl (fun v1 σ2 => ?_)
    refine vv_istore_n (i := 1) 27 [some (rf G 0), some (.int v1), none] hk dX11_rule_26 rfl rfl rfl rfl ?_
    refine vv_aload_n (i := 0) 28 hk dX11_rule_27 rfl rfl rfl ?_
    refine vv_getR 31 hk dX11_rule_28 rfl la_0 rfl ci_11 rfl fl_11_36 ?_
    refine vv_getI 34 hk he dX11_rule_31 rfl la_29 rfl ci_6 rfl fl_11_201 sd_29 ?_
    refine vv_istore_nL (i := 2) 35 (fun x3 => [some (rf G 0), some (.int v1), some (.int x3)]) hk dX11_rule_34 rfl rfl rfl (fun _ => rfl) (fun x3 => ?_)
    refine vv_aload_n (i := 0) 36 hk dX11_rule_35 rfl rfl rfl ?_
    refine vv_getR 39 hk dX11_rule_36 rfl la_0 rfl ci_11 rfl fl_11_36 ?_
    refine vv_iconst 40 hk dX11_rule_39 rfl ic_0 ?_
    refine vv_putI 43 hk he dX11_rule_40 rfl la_29 rfl ci_6 rfl fl_11_183 sd_29 rfl rfl (fun σ4 => ?_)
    refine vv_iload_n (i := 1) 44 hk dX11_rule_43 rfl rfl rfl ?_
    refine vv_jn (fun t5 => (t5.2, 65, [some (rf G 0), none, none], [(.int t5.1)])) (fun t5 => ?_) (fun k65 hk65 => ?_)
    · skip
      exact hret _ _ _ _ dX11_rule_65
    · skip
      refine vv_if_eq 61 47 hk dX11_rule_44 rfl rfl ?_ ?_
      · skip
        refine vv_bipush 63 hk dX11_rule_61 rfl bp_m20 ?_
        refine vv_iload_n (i := 2) 64 hk dX11_rule_63 rfl rfl rfl ?_
        refine vv_isub 65 hk dX11_rule_64 rfl ?_
        exact vv_le (ll_s rfl (ll_n (ll_n ll_0))) (hk65 (((-20 : Int32) - x3), σ4))
      · skip
        refine vv_aload_n (i := 0) 48 hk dX11_rule_47 rfl rfl rfl ?_
        refine vv_getR 51 hk dX11_rule_48 rfl la_0 rfl ci_11 rfl fl_11_45 ?_
        refine vv_aload_n (i := 0) 52 hk dX11_rule_51 rfl rfl rfl ?_
        refine vv_getR 55 hk dX11_rule_52 rfl la_0 rfl ci_11 rfl fl_11_36 ?_
        refine vv_invI (st := []) 58 hk he dX11_rule_55 rfl ml_11_204 cf_X8_add la_32 ci_8 (c_X8_add G σ4) rfl rfl rfl rfl (fun v6 σ7 => ?_)
        refine vv_goto 65 hk dX11_rule_58 rfl ?_
        exact vv_le (ll_s rfl (ll_n (ll_n ll_0))) (hk65 (v6, σ7))
  · skip
    refine vv_aload_n (i := 0) 13 hk dX11_rule_12 rfl rfl rfl ?_
    refine vv_bipush 15 hk dX11_rule_13 rfl bp_m6 ?_
    refine vv_invI (st := []) 18 hk he dX11_rule_15 rfl ml_11_193 cf_X11_refuse la_0 ci_11 (c_X11_refuse G (-6 : Int32) σ) rfl rfl rfl rfl (fun v8 σ9 => ?_)
    exact hret _ _ _ _ dX11_rule_18
theorem c_X11_seen (G : GT) (a1 : Int32) (a2 : Int32) (σ : Hp) : CtI G true yX11_seen cX11_seen 4 (some .int) 2 [(rf G 0), (.int a1), (.int a2)] (f_X11_seen a1 a2 σ) σ := by
  refine ctI (L0 := [some (rf G 0), some (.int a1), some (.int a2), none]) (by decide +kernel) rfl rfl rfl (fun κ hk he hret => ?_)
  have hk : KO G κ cX11_seen RX11 2 := hk
  refine vv_aload_n (i := 0) 1 hk dX11_seen_0 rfl rfl rfl ?_
  refine vv_iconst 2 hk dX11_seen_1 rfl ic_0 ?_
  refine vv_iconst 3 hk dX11_seen_2 rfl ic_0 ?_
  refine vv_iload_n (i := 1) 4 hk dX11_seen_3 rfl rfl rfl ?_
  refine vv_jn (fun t1 => (σ, 12, [some (rf G 0), some (.int a1), some (.int a2), none], [(.int t1), (.int (0 : Int32)), (.int (0 : Int32)), (rf G 0)])) (fun t1 => ?_) (fun k12 hk12 => ?_)
  · skip
    refine vv_iload_n (i := 1) 13 hk dX11_seen_12 rfl rfl rfl ?_
    refine vv_sipush 16 hk dX11_seen_13 rfl sp_9999 ?_
    refine vv_jn (fun t2 => (σ, 36, [some (rf G 0), some (.int a1), some (.int a2), none], [(.int t2), (.int t1), (.int (0 : Int32)), (.int (0 : Int32)), (rf G 0)])) (fun t2 => ?_) (fun k36 hk36 => ?_)
    · skip
      refine vv_invI (st := []) 39 hk he dX11_seen_36 rfl ml_11_107 cf_X11_refusal la_0 ci_11 (c_X11_refusal G (0 : Int32) (0 : Int32) t1 t2 σ) rfl rfl rfl rfl (fun v3 σ4 => ?_)
      refine vv_istore_n (i := 3) 40 [some (rf G 0), some (.int a1), some (.int a2), some (.int v3)] hk dX11_seen_39 rfl rfl rfl rfl ?_
      refine vv_iload_n (i := 3) 41 hk dX11_seen_40 rfl rfl rfl ?_
      refine vv_jn (fun t5 => (t5.2, 57, [some (rf G 0), none, none, none], [(.int t5.1)])) (fun t5 => ?_) (fun k57 hk57 => ?_)
      · skip
        exact hret _ _ _ _ dX11_seen_57
      · skip
        refine vv_if_eq 48 44 hk dX11_seen_41 rfl rfl ?_ ?_
        · skip
          refine vv_aload_n (i := 0) 49 hk dX11_seen_48 rfl rfl rfl ?_
          refine vv_getR 52 hk dX11_seen_49 rfl la_0 rfl ci_11 rfl fl_11_91 ?_
          refine vv_iload_n (i := 1) 53 hk dX11_seen_52 rfl rfl rfl ?_
          refine vv_iload_n (i := 2) 54 hk dX11_seen_53 rfl rfl rfl ?_
          refine vv_invI (st := []) 57 hk he dX11_seen_54 rfl ml_11_292 cf_X9_addSight la_77 ci_9 (c_X9_addSight G a1 a2 σ4) rfl rfl rfl rfl (fun v6 σ7 => ?_)
          exact vv_le (ll_s rfl (ll_n (ll_n (ll_n ll_0)))) (hk57 (v6, σ7))
        · skip
          refine vv_iload_n (i := 3) 45 hk dX11_seen_44 rfl rfl rfl ?_
          refine vv_goto 57 hk dX11_seen_45 rfl ?_
          exact vv_le (ll_s rfl (ll_n (ll_n (ll_n ll_0)))) (hk57 (v3, σ4))
    · skip
      refine vv_jn (fun t8 => (σ, 31, [some (rf G 0), some (.int a1), some (.int a2), none], [(.int t1), (.int (0 : Int32)), (.int (0 : Int32)), (rf G 0)])) (fun t8 => ?_) (fun k31 hk31 => ?_)
      · skip
        refine vv_iconst 32 hk dX11_seen_31 rfl ic_1 ?_
        refine vv_goto 36 hk dX11_seen_32 rfl ?_
        exact vv_le (ll_s rfl (ll_s rfl (ll_s rfl (ll_n ll_0)))) (hk36 (1 : Int32))
      · skip
        refine vv_icmp_gt 31 19 hk dX11_seen_16 rfl rfl ?_ ?_
        · skip
          exact vv_le (ll_s rfl (ll_s rfl (ll_s rfl (ll_n ll_0)))) (hk31 ())
        · skip
          refine vv_aload_n (i := 0) 20 hk dX11_seen_19 rfl rfl rfl ?_
          refine vv_getR 23 hk dX11_seen_20 rfl la_0 rfl ci_11 rfl fl_11_91 ?_
          refine vv_getI 26 hk he dX11_seen_23 rfl la_77 rfl ci_9 rfl fl_11_289 sd_77 ?_
          refine vv_bipush 28 hk dX11_seen_26 rfl bp_20 ?_
          refine vv_icmp_lt 35 31 hk dX11_seen_28 rfl rfl ?_ ?_
          · skip
            refine vv_iconst 36 hk dX11_seen_35 rfl ic_0 ?_
            exact vv_le (ll_s rfl (ll_s rfl (ll_s rfl (ll_n ll_0)))) (hk36 (0 : Int32))
          · skip
            exact vv_le (ll_s rfl (ll_s rfl (ll_s rfl (ll_n ll_0)))) (hk31 ())
  · skip
    refine vv_if_ge 11 7 hk dX11_seen_4 rfl rfl ?_ ?_
    · skip
      refine vv_iconst 12 hk dX11_seen_11 rfl ic_0 ?_
      exact vv_le (ll_s rfl (ll_s rfl (ll_s rfl (ll_n ll_0)))) (hk12 (0 : Int32))
    · skip
      refine vv_iconst 8 hk dX11_seen_7 rfl ic_1 ?_
      refine vv_goto 12 hk dX11_seen_8 rfl ?_
      exact vv_le (ll_s rfl (ll_s rfl (ll_s rfl (ll_n ll_0)))) (hk12 (1 : Int32))
theorem c_X11_sees (G : GT) (a1 : Int32) (a2 : Int32) (a3 : Int32) (σ : Hp) : CtI G true yX11_sees cX11_sees 7 (some .int) 2 [(rf G 0), (.int a1), (.int a2), (.int a3)] (f_X11_sees a1 a2 a3 σ) σ := by
  refine ctI (L0 := [some (rf G 0), some (.int a1), some (.int a2), some (.int a3), none, none, none]) (by decide +kernel) rfl rfl rfl (fun κ hk he hret => ?_)
  have hk : KO G κ cX11_sees RX11 2 := hk
  refine vv_aload_n (i := 0) 1 hk dX11_sees_0 rfl rfl rfl ?_
  refine vv_iload_n (i := 1) 2 hk dX11_sees_1 rfl rfl rfl ?_
  refine vv_iconst 3 hk dX11_sees_2 rfl ic_3 ?_
  refine vv_staIr (st := [(rf G 0)]) 6 hk he dX11_sees_3 rfl ml_11_99 sf_X11_within (c_X11_within G a1 (3 : Int32) σ) rfl rfl rfl rfl (fun v1 => ?_)
  refine vv_jn (fun t2 => (σ, 22, [some (rf G 0), some (.int a1), some (.int a2), some (.int a3), none, none, none], [(.int t2), (rf G 0)])) (fun t2 => ?_) (fun k22 hk22 => ?_)
  · skip
    refine vv_iconst 23 hk dX11_sees_22 rfl ic_0 ?_
    refine vv_iload_n (i := 3) 24 hk dX11_sees_23 rfl rfl rfl ?_
    refine vv_jn (fun t3 => (σ, 32, [some (rf G 0), some (.int a1), some (.int a2), some (.int a3), none, none, none], [(.int t3), (.int (0 : Int32)), (.int t2), (rf G 0)])) (fun t3 => ?_) (fun k32 hk32 => ?_)
    · skip
      refine vv_iload_n (i := 3) 33 hk dX11_sees_32 rfl rfl rfl ?_
      refine vv_bipush 35 hk dX11_sees_33 rfl bp_9 ?_
      refine vv_jn (fun t4 => (σ, 43, [some (rf G 0), some (.int a1), some (.int a2), some (.int a3), none, none, none], [(.int t4), (.int t3), (.int (0 : Int32)), (.int t2), (rf G 0)])) (fun t4 => ?_) (fun k43 hk43 => ?_)
      · skip
        refine vv_invI (st := []) 46 hk he dX11_sees_43 rfl ml_11_107 cf_X11_refusal la_0 ci_11 (c_X11_refusal G t2 (0 : Int32) t3 t4 σ) rfl rfl rfl rfl (fun v5 σ6 => ?_)
        refine vv_istore 48 [some (rf G 0), some (.int a1), some (.int a2), some (.int a3), some (.int v5), none, none] hk dX11_sees_46 rfl rfl rfl ?_
        refine vv_iload 50 hk dX11_sees_48 rfl rfl ?_
        refine vv_if_eq 56 53 hk dX11_sees_50 rfl rfl ?_ ?_
        · skip
          refine vv_iload_n (i := 1) 57 hk dX11_sees_56 rfl rfl rfl ?_
          refine vv_iconst 58 hk dX11_sees_57 rfl ic_3 ?_
          refine vv_imul 59 hk dX11_sees_58 rfl ?_
          refine vv_iload_n (i := 2) 60 hk dX11_sees_59 rfl rfl rfl ?_
          refine vv_iadd 61 hk dX11_sees_60 rfl ?_
          refine vv_istoreL 63 (fun x7 => [some (rf G 0), some (.int a1), some (.int a2), some (.int a3), some (.int v5), some (.int x7), none]) hk dX11_sees_61 rfl rfl (fun _ => rfl) (fun x7 => ?_)
          refine vv_aload_n (i := 0) 64 hk dX11_sees_63 rfl rfl rfl ?_
          refine vv_getR 67 hk dX11_sees_64 rfl la_0 rfl ci_11 rfl fl_11_77 ?_
          refine vv_getR 70 hk dX11_sees_67 rfl la_67 rfl ci_3 rfl fl_11_254 ?_
          refine vv_iload 72 hk dX11_sees_70 rfl rfl ?_
          refine vv_iald 73 hk he dX11_sees_72 rfl la_68 sd_68 (fun v8 => ?_)
          refine vv_istore 75 [some (rf G 0), some (.int a1), some (.int a2), some (.int a3), some (.int v5), some (.int x7), some (.int v8)] hk dX11_sees_73 rfl rfl rfl ?_
          refine vv_aload_n (i := 0) 76 hk dX11_sees_75 rfl rfl rfl ?_
          refine vv_getR 79 hk dX11_sees_76 rfl la_0 rfl ci_11 rfl fl_11_77 ?_
          refine vv_getR 82 hk dX11_sees_79 rfl la_67 rfl ci_3 rfl fl_11_254 ?_
          refine vv_iload 84 hk dX11_sees_82 rfl rfl ?_
          refine vv_iload_n (i := 3) 85 hk dX11_sees_84 rfl rfl rfl ?_
          refine vv_iast 86 hk he dX11_sees_85 rfl la_68 sd_68 (fun σ9 => ?_)
          refine vv_iload 88 hk dX11_sees_86 rfl rfl ?_
          exact hret _ _ _ _ dX11_sees_88
        · skip
          refine vv_iload 55 hk dX11_sees_53 rfl rfl ?_
          exact hret _ _ _ _ dX11_sees_55
      · skip
        refine vv_icmp_le 42 38 hk dX11_sees_35 rfl rfl ?_ ?_
        · skip
          refine vv_iconst 43 hk dX11_sees_42 rfl ic_0 ?_
          exact vv_le (ll_s rfl (ll_s rfl (ll_s rfl (ll_s rfl (ll_n (ll_n (ll_n ll_0))))))) (hk43 (0 : Int32))
        · skip
          refine vv_iconst 39 hk dX11_sees_38 rfl ic_1 ?_
          refine vv_goto 43 hk dX11_sees_39 rfl ?_
          exact vv_le (ll_s rfl (ll_s rfl (ll_s rfl (ll_s rfl (ll_n (ll_n (ll_n ll_0))))))) (hk43 (1 : Int32))
    · skip
      refine vv_if_ge 31 27 hk dX11_sees_24 rfl rfl ?_ ?_
      · skip
        refine vv_iconst 32 hk dX11_sees_31 rfl ic_0 ?_
        exact vv_le (ll_s rfl (ll_s rfl (ll_s rfl (ll_s rfl (ll_n (ll_n (ll_n ll_0))))))) (hk32 (0 : Int32))
      · skip
        refine vv_iconst 28 hk dX11_sees_27 rfl ic_1 ?_
        refine vv_goto 32 hk dX11_sees_28 rfl ?_
        exact vv_le (ll_s rfl (ll_s rfl (ll_s rfl (ll_s rfl (ll_n (ll_n (ll_n ll_0))))))) (hk32 (1 : Int32))
  · skip
    refine vv_jn (fun t10 => (σ, 17, [some (rf G 0), some (.int a1), some (.int a2), some (.int a3), none, none, none], [(rf G 0)])) (fun t10 => ?_) (fun k17 hk17 => ?_)
    · skip
      refine vv_iconst 18 hk dX11_sees_17 rfl ic_1 ?_
      refine vv_goto 22 hk dX11_sees_18 rfl ?_
      exact vv_le (ll_s rfl (ll_s rfl (ll_s rfl (ll_s rfl (ll_n (ll_n (ll_n ll_0))))))) (hk22 (1 : Int32))
    · skip
      refine vv_if_eq 17 9 hk dX11_sees_6 rfl rfl ?_ ?_
      · skip
        exact vv_le (ll_s rfl (ll_s rfl (ll_s rfl (ll_s rfl (ll_n (ll_n (ll_n ll_0))))))) (hk17 ())
      · skip
        refine vv_iload_n (i := 2) 10 hk dX11_sees_9 rfl rfl rfl ?_
        refine vv_iconst 11 hk dX11_sees_10 rfl ic_3 ?_
        refine vv_staIr (st := [(rf G 0)]) 14 hk he dX11_sees_11 rfl ml_11_99 sf_X11_within (c_X11_within G a2 (3 : Int32) σ) rfl rfl rfl rfl (fun v11 => ?_)
        refine vv_if_ne 21 17 hk dX11_sees_14 rfl rfl ?_ ?_
        · skip
          exact vv_le (ll_s rfl (ll_s rfl (ll_s rfl (ll_s rfl (ll_n (ll_n (ll_n ll_0))))))) (hk17 ())
        · skip
          refine vv_iconst 22 hk dX11_sees_21 rfl ic_0 ?_
          exact vv_le (ll_s rfl (ll_s rfl (ll_s rfl (ll_s rfl (ll_n (ll_n (ll_n ll_0))))))) (hk22 (0 : Int32))
theorem c_X11_spray (G : GT) (a1 : Int32) (a2 : Int32) (σ : Hp) : CtI G true yX11_spray cX11_spray 4 (some .int) 2 [(rf G 0), (.int a1), (.int a2)] (f_X11_spray a1 a2 σ) σ := by
  refine ctI (L0 := [some (rf G 0), some (.int a1), some (.int a2), none]) (by decide +kernel) rfl rfl rfl (fun κ hk he hret => ?_)
  have hk : KO G κ cX11_spray RX11 2 := hk
  refine vv_aload_n (i := 0) 1 hk dX11_spray_0 rfl rfl rfl ?_
  refine vv_iload_n (i := 1) 2 hk dX11_spray_1 rfl rfl rfl ?_
  refine vv_bipush 4 hk dX11_spray_2 rfl bp_8 ?_
  refine vv_staIr (st := [(rf G 0)]) 7 hk he dX11_spray_4 rfl ml_11_99 sf_X11_within (c_X11_within G a1 (8 : Int32) σ) rfl rfl rfl rfl (fun v1 => ?_)
  refine vv_jn (fun t2 => (σ, 15, [some (rf G 0), some (.int a1), some (.int a2), none], [(.int t2), (rf G 0)])) (fun t2 => ?_) (fun k15 hk15 => ?_)
  · skip
    refine vv_iconst 16 hk dX11_spray_15 rfl ic_0 ?_
    refine vv_iload_n (i := 2) 17 hk dX11_spray_16 rfl rfl rfl ?_
    refine vv_jn (fun t3 => (σ, 25, [some (rf G 0), some (.int a1), some (.int a2), none], [(.int t3), (.int (0 : Int32)), (.int t2), (rf G 0)])) (fun t3 => ?_) (fun k25 hk25 => ?_)
    · skip
      refine vv_iload_n (i := 2) 26 hk dX11_spray_25 rfl rfl rfl ?_
      refine vv_sipush 29 hk dX11_spray_26 rfl sp_9999 ?_
      refine vv_jn (fun t4 => (σ, 49, [some (rf G 0), some (.int a1), some (.int a2), none], [(.int t4), (.int t3), (.int (0 : Int32)), (.int t2), (rf G 0)])) (fun t4 => ?_) (fun k49 hk49 => ?_)
      · skip
        refine vv_invI (st := []) 52 hk he dX11_spray_49 rfl ml_11_107 cf_X11_refusal la_0 ci_11 (c_X11_refusal G t2 (0 : Int32) t3 t4 σ) rfl rfl rfl rfl (fun v5 σ6 => ?_)
        refine vv_istore_n (i := 3) 53 [some (rf G 0), some (.int a1), some (.int a2), some (.int v5)] hk dX11_spray_52 rfl rfl rfl rfl ?_
        refine vv_iload_n (i := 3) 54 hk dX11_spray_53 rfl rfl rfl ?_
        refine vv_jn (fun t7 => (t7.2, 70, [some (rf G 0), none, none, none], [(.int t7.1)])) (fun t7 => ?_) (fun k70 hk70 => ?_)
        · skip
          exact hret _ _ _ _ dX11_spray_70
        · skip
          refine vv_if_eq 61 57 hk dX11_spray_54 rfl rfl ?_ ?_
          · skip
            refine vv_aload_n (i := 0) 62 hk dX11_spray_61 rfl rfl rfl ?_
            refine vv_getR 65 hk dX11_spray_62 rfl la_0 rfl ci_11 rfl fl_11_91 ?_
            refine vv_iload_n (i := 1) 66 hk dX11_spray_65 rfl rfl rfl ?_
            refine vv_iload_n (i := 2) 67 hk dX11_spray_66 rfl rfl rfl ?_
            refine vv_invI (st := []) 70 hk he dX11_spray_67 rfl ml_11_286 cf_X9_addSpray la_77 ci_9 (c_X9_addSpray G a1 a2 σ6) rfl rfl rfl rfl (fun v8 σ9 => ?_)
            exact vv_le (ll_s rfl (ll_n (ll_n (ll_n ll_0)))) (hk70 (v8, σ9))
          · skip
            refine vv_iload_n (i := 3) 58 hk dX11_spray_57 rfl rfl rfl ?_
            refine vv_goto 70 hk dX11_spray_58 rfl ?_
            exact vv_le (ll_s rfl (ll_n (ll_n (ll_n ll_0)))) (hk70 (v5, σ6))
      · skip
        refine vv_jn (fun t10 => (σ, 44, [some (rf G 0), some (.int a1), some (.int a2), none], [(.int t3), (.int (0 : Int32)), (.int t2), (rf G 0)])) (fun t10 => ?_) (fun k44 hk44 => ?_)
        · skip
          refine vv_iconst 45 hk dX11_spray_44 rfl ic_1 ?_
          refine vv_goto 49 hk dX11_spray_45 rfl ?_
          exact vv_le (ll_s rfl (ll_s rfl (ll_s rfl (ll_n ll_0)))) (hk49 (1 : Int32))
        · skip
          refine vv_icmp_gt 44 32 hk dX11_spray_29 rfl rfl ?_ ?_
          · skip
            exact vv_le (ll_s rfl (ll_s rfl (ll_s rfl (ll_n ll_0)))) (hk44 ())
          · skip
            refine vv_aload_n (i := 0) 33 hk dX11_spray_32 rfl rfl rfl ?_
            refine vv_getR 36 hk dX11_spray_33 rfl la_0 rfl ci_11 rfl fl_11_91 ?_
            refine vv_getI 39 hk he dX11_spray_36 rfl la_77 rfl ci_9 rfl fl_11_283 sd_77 ?_
            refine vv_bipush 41 hk dX11_spray_39 rfl bp_20 ?_
            refine vv_icmp_lt 48 44 hk dX11_spray_41 rfl rfl ?_ ?_
            · skip
              refine vv_iconst 49 hk dX11_spray_48 rfl ic_0 ?_
              exact vv_le (ll_s rfl (ll_s rfl (ll_s rfl (ll_n ll_0)))) (hk49 (0 : Int32))
            · skip
              exact vv_le (ll_s rfl (ll_s rfl (ll_s rfl (ll_n ll_0)))) (hk44 ())
    · skip
      refine vv_if_ge 24 20 hk dX11_spray_17 rfl rfl ?_ ?_
      · skip
        refine vv_iconst 25 hk dX11_spray_24 rfl ic_0 ?_
        exact vv_le (ll_s rfl (ll_s rfl (ll_s rfl (ll_n ll_0)))) (hk25 (0 : Int32))
      · skip
        refine vv_iconst 21 hk dX11_spray_20 rfl ic_1 ?_
        refine vv_goto 25 hk dX11_spray_21 rfl ?_
        exact vv_le (ll_s rfl (ll_s rfl (ll_s rfl (ll_n ll_0)))) (hk25 (1 : Int32))
  · skip
    refine vv_if_ne 14 10 hk dX11_spray_7 rfl rfl ?_ ?_
    · skip
      refine vv_iconst 11 hk dX11_spray_10 rfl ic_1 ?_
      refine vv_goto 15 hk dX11_spray_11 rfl ?_
      exact vv_le (ll_s rfl (ll_s rfl (ll_s rfl (ll_n ll_0)))) (hk15 (1 : Int32))
    · skip
      refine vv_iconst 15 hk dX11_spray_14 rfl ic_0 ?_
      exact vv_le (ll_s rfl (ll_s rfl (ll_s rfl (ll_n ll_0)))) (hk15 (0 : Int32))
theorem c_X11_square (G : GT) (a1 : Int32) (a2 : Int32) (a3 : Int32) (σ : Hp) : CtI G true yX11_square cX11_square 4 (some .int) 1 [(rf G 0), (.int a1), (.int a2), (.int a3)] (f_X11_square a1 a2 a3 σ) σ := by
  refine ctI (L0 := [some (rf G 0), some (.int a1), some (.int a2), some (.int a3)]) (by decide +kernel) rfl rfl rfl (fun κ hk he hret => ?_)
  have hk : KO G κ cX11_square RX11 1 := hk
  refine vv_iload_n (i := 1) 1 hk dX11_square_0 rfl rfl rfl ?_
  refine vv_iconst 2 hk dX11_square_1 rfl ic_5 ?_
  refine vv_staIr (st := []) 5 hk he dX11_square_2 rfl ml_11_99 sf_X11_within (c_X11_within G a1 (5 : Int32) σ) rfl rfl rfl rfl (fun v1 => ?_)
  refine vv_jn (fun t2 => (σ, 16, [some (rf G 0), none, none, none], [])) (fun t2 => ?_) (fun k16 hk16 => ?_)
  · skip
    refine vv_aload_n (i := 0) 17 hk dX11_square_16 rfl rfl rfl ?_
    refine vv_iconst 18 hk dX11_square_17 rfl ic_m1 ?_
    refine vv_invI (st := []) 21 hk he dX11_square_18 rfl ml_11_193 cf_X11_refuse la_0 ci_11 (c_X11_refuse G (-1 : Int32) σ) rfl rfl rfl rfl (fun v3 σ4 => ?_)
    exact hret _ _ _ _ dX11_square_21
  · skip
    refine vv_if_eq 16 8 hk dX11_square_5 rfl rfl ?_ ?_
    · skip
      exact vv_le (ll_s rfl (ll_n (ll_n (ll_n ll_0)))) (hk16 ())
    · skip
      refine vv_iload_n (i := 2) 9 hk dX11_square_8 rfl rfl rfl ?_
      refine vv_iconst 10 hk dX11_square_9 rfl ic_5 ?_
      refine vv_staIr (st := []) 13 hk he dX11_square_10 rfl ml_11_99 sf_X11_within (c_X11_within G a2 (5 : Int32) σ) rfl rfl rfl rfl (fun v5 => ?_)
      refine vv_if_ne 22 16 hk dX11_square_13 rfl rfl ?_ ?_
      · skip
        exact vv_le (ll_s rfl (ll_n (ll_n (ll_n ll_0)))) (hk16 ())
      · skip
        refine vv_aload_n (i := 0) 23 hk dX11_square_22 rfl rfl rfl ?_
        refine vv_getR 26 hk dX11_square_23 rfl la_0 rfl ci_11 rfl fl_11_70 ?_
        refine vv_iload_n (i := 1) 27 hk dX11_square_26 rfl rfl rfl ?_
        refine vv_iload_n (i := 2) 28 hk dX11_square_27 rfl rfl rfl ?_
        refine vv_iload_n (i := 3) 29 hk dX11_square_28 rfl rfl rfl ?_
        refine vv_invI (st := []) 32 hk he dX11_square_29 rfl ml_11_247 cf_X2_draw la_63 ci_2 (c_X2_draw G a1 a2 a3 σ) rfl rfl rfl rfl (fun v6 σ7 => ?_)
        refine vv_jn (fun t8 => (σ7, 40, [some (rf G 0), none, none, none], [(.int t8)])) (fun t8 => ?_) (fun k40 hk40 => ?_)
        · skip
          exact hret _ _ _ _ dX11_square_40
        · skip
          refine vv_if_eq 39 35 hk dX11_square_32 rfl rfl ?_ ?_
          · skip
            refine vv_iconst 40 hk dX11_square_39 rfl ic_0 ?_
            exact vv_le (ll_s rfl (ll_n (ll_n (ll_n ll_0)))) (hk40 (0 : Int32))
          · skip
            refine vv_iconst 36 hk dX11_square_35 rfl ic_1 ?_
            refine vv_goto 40 hk dX11_square_36 rfl ?_
            exact vv_le (ll_s rfl (ll_n (ll_n (ll_n ll_0)))) (hk40 (1 : Int32))
theorem c_X11_stage (G : GT) (a1 : Int32) (a2 : Int32) (a3 : Int32) (a4 : Int32) (a5 : Int32) (σ : Hp) : CtI G true yX11_stage cX11_stage 7 (some .int) 2 [(rf G 0), (.int a1), (.int a2), (.int a3), (.int a4), (.int a5)] (f_X11_stage a1 a2 a3 a4 a5 σ) σ := by
  refine ctI (L0 := [some (rf G 0), some (.int a1), some (.int a2), some (.int a3), some (.int a4), some (.int a5), none]) (by decide +kernel) rfl rfl rfl (fun κ hk he hret => ?_)
  have hk : KO G κ cX11_stage RX11 2 := hk
  refine vv_aload_n (i := 0) 1 hk dX11_stage_0 rfl rfl rfl ?_
  refine vv_iload_n (i := 1) 2 hk dX11_stage_1 rfl rfl rfl ?_
  refine vv_iconst 3 hk dX11_stage_2 rfl ic_4 ?_
  refine vv_staIr (st := [(rf G 0)]) 6 hk he dX11_stage_3 rfl ml_11_99 sf_X11_within (c_X11_within G a1 (4 : Int32) σ) rfl rfl rfl rfl (fun v1 => ?_)
  refine vv_jn (fun t2 => (σ, 14, [some (rf G 0), some (.int a1), some (.int a2), some (.int a3), some (.int a4), some (.int a5), none], [(.int t2), (rf G 0)])) (fun t2 => ?_) (fun k14 hk14 => ?_)
  · skip
    refine vv_iconst 15 hk dX11_stage_14 rfl ic_0 ?_
    refine vv_iload_n (i := 2) 16 hk dX11_stage_15 rfl rfl rfl ?_
    refine vv_jn (fun t3 => (σ, 39, [some (rf G 0), some (.int a1), some (.int a2), some (.int a3), some (.int a4), some (.int a5), none], [(.int t3), (.int (0 : Int32)), (.int t2), (rf G 0)])) (fun t3 => ?_) (fun k39 hk39 => ?_)
    · skip
      refine vv_iload_n (i := 2) 40 hk dX11_stage_39 rfl rfl rfl ?_
      refine vv_sipush 43 hk dX11_stage_40 rfl sp_299 ?_
      refine vv_jn (fun t4 => (σ, 72, [some (rf G 0), some (.int a1), some (.int a2), some (.int a3), some (.int a4), some (.int a5), none], [(.int t4), (.int t3), (.int (0 : Int32)), (.int t2), (rf G 0)])) (fun t4 => ?_) (fun k72 hk72 => ?_)
      · skip
        refine vv_invI (st := []) 75 hk he dX11_stage_72 rfl ml_11_107 cf_X11_refusal la_0 ci_11 (c_X11_refusal G t2 (0 : Int32) t3 t4 σ) rfl rfl rfl rfl (fun v5 σ6 => ?_)
        refine vv_istore 77 [some (rf G 0), some (.int a1), some (.int a2), some (.int a3), some (.int a4), some (.int a5), some (.int v5)] hk dX11_stage_75 rfl rfl rfl ?_
        refine vv_iload 79 hk dX11_stage_77 rfl rfl ?_
        refine vv_if_eq 85 82 hk dX11_stage_79 rfl rfl ?_ ?_
        · skip
          refine vv_aload_n (i := 0) 86 hk dX11_stage_85 rfl rfl rfl ?_
          refine vv_getR 89 hk dX11_stage_86 rfl la_0 rfl ci_11 rfl fl_11_84 ?_
          refine vv_iload_n (i := 1) 90 hk dX11_stage_89 rfl rfl rfl ?_
          refine vv_iload_n (i := 2) 91 hk dX11_stage_90 rfl rfl rfl ?_
          refine vv_iload_n (i := 3) 92 hk dX11_stage_91 rfl rfl rfl ?_
          refine vv_iload 94 hk dX11_stage_92 rfl rfl ?_
          refine vv_iload 96 hk dX11_stage_94 rfl rfl ?_
          refine vv_invV (st := []) 99 hk he dX11_stage_96 rfl ml_11_271 cf_X1_tell la_72 ci_1 (c_X1_tell G a1 a2 a3 a4 a5 σ6) rfl rfl rfl rfl (fun σ7 => ?_)
          refine vv_iconst 100 hk dX11_stage_99 rfl ic_1 ?_
          exact hret _ _ _ _ dX11_stage_100
        · skip
          refine vv_iload 84 hk dX11_stage_82 rfl rfl ?_
          exact hret _ _ _ _ dX11_stage_84
      · skip
        refine vv_jn (fun t8 => (σ, 67, [some (rf G 0), some (.int a1), some (.int a2), some (.int a3), some (.int a4), some (.int a5), none], [(.int t3), (.int (0 : Int32)), (.int t2), (rf G 0)])) (fun t8 => ?_) (fun k67 hk67 => ?_)
        · skip
          refine vv_iconst 68 hk dX11_stage_67 rfl ic_1 ?_
          refine vv_goto 72 hk dX11_stage_68 rfl ?_
          exact vv_le (ll_s rfl (ll_s rfl (ll_s rfl (ll_s rfl (ll_s rfl (ll_s rfl (ll_n ll_0))))))) (hk72 (1 : Int32))
        · skip
          refine vv_icmp_gt 67 46 hk dX11_stage_43 rfl rfl ?_ ?_
          · skip
            exact vv_le (ll_s rfl (ll_s rfl (ll_s rfl (ll_s rfl (ll_s rfl (ll_s rfl (ll_n ll_0))))))) (hk67 ())
          · skip
            refine vv_iload_n (i := 3) 47 hk dX11_stage_46 rfl rfl rfl ?_
            refine vv_bipush 49 hk dX11_stage_47 rfl bp_99 ?_
            refine vv_icmp_gt 67 52 hk dX11_stage_49 rfl rfl ?_ ?_
            · skip
              exact vv_le (ll_s rfl (ll_s rfl (ll_s rfl (ll_s rfl (ll_s rfl (ll_s rfl (ll_n ll_0))))))) (hk67 ())
            · skip
              refine vv_iload 54 hk dX11_stage_52 rfl rfl ?_
              refine vv_bipush 56 hk dX11_stage_54 rfl bp_99 ?_
              refine vv_icmp_gt 67 59 hk dX11_stage_56 rfl rfl ?_ ?_
              · skip
                exact vv_le (ll_s rfl (ll_s rfl (ll_s rfl (ll_s rfl (ll_s rfl (ll_s rfl (ll_n ll_0))))))) (hk67 ())
              · skip
                refine vv_iload 61 hk dX11_stage_59 rfl rfl ?_
                refine vv_sipush 64 hk dX11_stage_61 rfl sp_9999 ?_
                refine vv_icmp_le 71 67 hk dX11_stage_64 rfl rfl ?_ ?_
                · skip
                  refine vv_iconst 72 hk dX11_stage_71 rfl ic_0 ?_
                  exact vv_le (ll_s rfl (ll_s rfl (ll_s rfl (ll_s rfl (ll_s rfl (ll_s rfl (ll_n ll_0))))))) (hk72 (0 : Int32))
                · skip
                  exact vv_le (ll_s rfl (ll_s rfl (ll_s rfl (ll_s rfl (ll_s rfl (ll_s rfl (ll_n ll_0))))))) (hk67 ())
    · skip
      refine vv_jn (fun t9 => (σ, 34, [some (rf G 0), some (.int a1), some (.int a2), some (.int a3), some (.int a4), some (.int a5), none], [(.int (0 : Int32)), (.int t2), (rf G 0)])) (fun t9 => ?_) (fun k34 hk34 => ?_)
      · skip
        refine vv_iconst 35 hk dX11_stage_34 rfl ic_1 ?_
        refine vv_goto 39 hk dX11_stage_35 rfl ?_
        exact vv_le (ll_s rfl (ll_s rfl (ll_s rfl (ll_s rfl (ll_s rfl (ll_s rfl (ll_n ll_0))))))) (hk39 (1 : Int32))
      · skip
        refine vv_if_lt 34 19 hk dX11_stage_16 rfl rfl ?_ ?_
        · skip
          exact vv_le (ll_s rfl (ll_s rfl (ll_s rfl (ll_s rfl (ll_s rfl (ll_s rfl (ll_n ll_0))))))) (hk34 ())
        · skip
          refine vv_iload_n (i := 3) 20 hk dX11_stage_19 rfl rfl rfl ?_
          refine vv_iconst 21 hk dX11_stage_20 rfl ic_1 ?_
          refine vv_icmp_lt 34 24 hk dX11_stage_21 rfl rfl ?_ ?_
          · skip
            exact vv_le (ll_s rfl (ll_s rfl (ll_s rfl (ll_s rfl (ll_s rfl (ll_s rfl (ll_n ll_0))))))) (hk34 ())
          · skip
            refine vv_iload 26 hk dX11_stage_24 rfl rfl ?_
            refine vv_if_lt 34 29 hk dX11_stage_26 rfl rfl ?_ ?_
            · skip
              exact vv_le (ll_s rfl (ll_s rfl (ll_s rfl (ll_s rfl (ll_s rfl (ll_s rfl (ll_n ll_0))))))) (hk34 ())
            · skip
              refine vv_iload 31 hk dX11_stage_29 rfl rfl ?_
              refine vv_if_ge 38 34 hk dX11_stage_31 rfl rfl ?_ ?_
              · skip
                refine vv_iconst 39 hk dX11_stage_38 rfl ic_0 ?_
                exact vv_le (ll_s rfl (ll_s rfl (ll_s rfl (ll_s rfl (ll_s rfl (ll_s rfl (ll_n ll_0))))))) (hk39 (0 : Int32))
              · skip
                exact vv_le (ll_s rfl (ll_s rfl (ll_s rfl (ll_s rfl (ll_s rfl (ll_s rfl (ll_n ll_0))))))) (hk34 ())
  · skip
    refine vv_if_ne 13 9 hk dX11_stage_6 rfl rfl ?_ ?_
    · skip
      refine vv_iconst 10 hk dX11_stage_9 rfl ic_1 ?_
      refine vv_goto 14 hk dX11_stage_10 rfl ?_
      exact vv_le (ll_s rfl (ll_s rfl (ll_s rfl (ll_s rfl (ll_s rfl (ll_s rfl (ll_n ll_0))))))) (hk14 (1 : Int32))
    · skip
      refine vv_iconst 14 hk dX11_stage_13 rfl ic_0 ?_
      exact vv_le (ll_s rfl (ll_s rfl (ll_s rfl (ll_s rfl (ll_s rfl (ll_s rfl (ll_n ll_0))))))) (hk14 (0 : Int32))
theorem c_X11_start (G : GT) (a1 : Int32) (a2 : Int32) (σ : Hp) : CtI G true yX11_start cX11_start 3 (some .int) 5 [(rf G 0), (.int a1), (.int a2)] (f_X11_start a1 a2 σ) σ := by
  refine ctI (L0 := [some (rf G 0), some (.int a1), some (.int a2)]) (by decide +kernel) rfl rfl rfl (fun κ hk he hret => ?_)
  have hk : KO G κ cX11_start RX11 5 := hk
  refine vv_iload_n (i := 1) 1 hk dX11_start_0 rfl rfl rfl ?_
  refine vv_aload_n (i := 0) 2 hk dX11_start_1 rfl rfl rfl ?_
  refine vv_getR 5 hk dX11_start_2 rfl la_0 rfl ci_11 rfl fl_11_10 ?_
  refine vv_getI 8 hk he dX11_start_5 rfl la_1 rfl ci_5 rfl fl_11_142 sd_1 ?_
  refine vv_staIr (st := []) 11 hk he dX11_start_8 rfl ml_11_99 sf_X11_within (c_X11_within G a1 (σ.1 1 11) σ) rfl rfl rfl rfl (fun v1 => ?_)
  refine vv_if_ne 20 14 hk dX11_start_11 rfl rfl ?_ ?_
  · skip
    refine vv_aload_n (i := 0) 15 hk dX11_start_14 rfl rfl rfl ?_
    refine vv_iconst 16 hk dX11_start_15 rfl ic_m1 ?_
    refine vv_invI (st := []) 19 hk he dX11_start_16 rfl ml_11_193 cf_X11_refuse la_0 ci_11 (c_X11_refuse G (-1 : Int32) σ) rfl rfl rfl rfl (fun v2 σ3 => ?_)
    exact hret _ _ _ _ dX11_start_19
  · skip
    refine vv_aload_n (i := 0) 21 hk dX11_start_20 rfl rfl rfl ?_
    refine vv_getR 24 hk dX11_start_21 rfl la_0 rfl ci_11 rfl fl_11_10 ?_
    refine vv_getI 27 hk he dX11_start_24 rfl la_1 rfl ci_5 rfl fl_11_162 sd_1 ?_
    refine vv_iload_n (i := 1) 28 hk dX11_start_27 rfl rfl rfl ?_
    refine vv_ishr 29 hk dX11_start_28 rfl ?_
    refine vv_iconst 30 hk dX11_start_29 rfl ic_1 ?_
    refine vv_iand 31 hk dX11_start_30 rfl ?_
    refine vv_iload_n (i := 2) 32 hk dX11_start_31 rfl rfl rfl ?_
    refine vv_jn (fun t4 => (σ, 40, [some (rf G 0), some (.int a1), some (.int a2)], [(.int t4), (.int (((σ.1 1 15) >>> (a1 &&& 31)) &&& (1 : Int32)))])) (fun t4 => ?_) (fun k40 hk40 => ?_)
    · skip
      refine vv_icmp_ne 45 43 hk dX11_start_40 rfl rfl ?_ ?_
      · skip
        refine vv_iconst 44 hk dX11_start_43 rfl ic_0 ?_
        exact hret _ _ _ _ dX11_start_44
      · skip
        refine vv_iload_n (i := 2) 46 hk dX11_start_45 rfl rfl rfl ?_
        refine vv_jn (fun t5 => (σ, 71, [some (rf G 0), some (.int a1), some (.int a2)], [])) (fun t5 => ?_) (fun k71 hk71 => ?_)
        · skip
          refine vv_iload_n (i := 2) 72 hk dX11_start_71 rfl rfl rfl ?_
          refine vv_jn (fun t6 => (σ, 103, [some (rf G 0), some (.int a1), none], [])) (fun t6 => ?_) (fun k103 hk103 => ?_)
          · skip
            refine vv_aload_n (i := 0) 104 hk dX11_start_103 rfl rfl rfl ?_
            refine vv_getR 107 hk dX11_start_104 rfl la_0 rfl ci_11 rfl fl_11_29 ?_
            refine vv_iconst 108 hk dX11_start_107 rfl ic_1 ?_
            refine vv_iload_n (i := 1) 109 hk dX11_start_108 rfl rfl rfl ?_
            refine vv_aload_n (i := 0) 110 hk dX11_start_109 rfl rfl rfl ?_
            refine vv_getR 113 hk dX11_start_110 rfl la_0 rfl ci_11 rfl fl_11_10 ?_
            refine vv_aload_n (i := 0) 114 hk dX11_start_113 rfl rfl rfl ?_
            refine vv_getR 117 hk dX11_start_114 rfl la_0 rfl ci_11 rfl fl_11_19 ?_
            refine vv_invV (st := []) 120 hk he dX11_start_117 rfl ml_11_223 cf_X0_perform la_25 ci_0 (c_X0_perform G (1 : Int32) a1 σ) rfl rfl rfl rfl (fun σ7 => ?_)
            refine vv_iconst 121 hk dX11_start_120 rfl ic_1 ?_
            exact hret _ _ _ _ dX11_start_121
          · skip
            refine vv_if_eq 103 75 hk dX11_start_72 rfl rfl ?_ ?_
            · skip
              exact vv_le (ll_s rfl (ll_s rfl (ll_n ll_0))) (hk103 ())
            · skip
              refine vv_aload_n (i := 0) 76 hk dX11_start_75 rfl rfl rfl ?_
              refine vv_getR 79 hk dX11_start_76 rfl la_0 rfl ci_11 rfl fl_11_45 ?_
              refine vv_iload_n (i := 1) 80 hk dX11_start_79 rfl rfl rfl ?_
              refine vv_iconst 81 hk dX11_start_80 rfl ic_1 ?_
              refine vv_aload_n (i := 0) 82 hk dX11_start_81 rfl rfl rfl ?_
              refine vv_getR 85 hk dX11_start_82 rfl la_0 rfl ci_11 rfl fl_11_10 ?_
              refine vv_getI 88 hk he dX11_start_85 rfl la_1 rfl ci_5 rfl fl_11_162 sd_1 ?_
              refine vv_invIr (st := []) 91 hk he dX11_start_88 rfl ml_11_216 cf_X8_forbidder la_32 ci_8 (c_X8_forbidder G a1 (1 : Int32) (σ.1 1 15) σ) rfl rfl rfl rfl (fun v8 => ?_)
              refine vv_bipush 93 hk dX11_start_91 rfl bp_m9 ?_
              refine vv_icmp_eq 103 96 hk dX11_start_93 rfl rfl ?_ ?_
              · skip
                exact vv_le (ll_s rfl (ll_s rfl (ll_n ll_0))) (hk103 ())
              · skip
                refine vv_aload_n (i := 0) 97 hk dX11_start_96 rfl rfl rfl ?_
                refine vv_bipush 99 hk dX11_start_97 rfl bp_m7 ?_
                refine vv_invI (st := []) 102 hk he dX11_start_99 rfl ml_11_193 cf_X11_refuse la_0 ci_11 (c_X11_refuse G (-7 : Int32) σ) rfl rfl rfl rfl (fun v9 σ10 => ?_)
                exact hret _ _ _ _ dX11_start_102
        · skip
          refine vv_if_eq 71 49 hk dX11_start_46 rfl rfl ?_ ?_
          · skip
            exact vv_le (ll_s rfl (ll_s rfl (ll_s rfl ll_0))) (hk71 ())
          · skip
            refine vv_aload_n (i := 0) 50 hk dX11_start_49 rfl rfl rfl ?_
            refine vv_getR 53 hk dX11_start_50 rfl la_0 rfl ci_11 rfl fl_11_19 ?_
            refine vv_getI 56 hk he dX11_start_53 rfl la_13 rfl ci_4 rfl fl_11_165 sd_13 ?_
            refine vv_iload_n (i := 1) 57 hk dX11_start_56 rfl rfl rfl ?_
            refine vv_ishr 58 hk dX11_start_57 rfl ?_
            refine vv_iconst 59 hk dX11_start_58 rfl ic_1 ?_
            refine vv_iand 60 hk dX11_start_59 rfl ?_
            refine vv_iconst 61 hk dX11_start_60 rfl ic_1 ?_
            refine vv_icmp_ne 71 64 hk dX11_start_61 rfl rfl ?_ ?_
            · skip
              refine vv_aload_n (i := 0) 65 hk dX11_start_64 rfl rfl rfl ?_
              refine vv_bipush 67 hk dX11_start_65 rfl bp_m3 ?_
              refine vv_invI (st := []) 70 hk he dX11_start_67 rfl ml_11_193 cf_X11_refuse la_0 ci_11 (c_X11_refuse G (-3 : Int32) σ) rfl rfl rfl rfl (fun v11 σ12 => ?_)
              exact hret _ _ _ _ dX11_start_70
            · skip
              exact vv_le (ll_s rfl (ll_s rfl (ll_s rfl ll_0))) (hk71 ())
    · skip
      refine vv_if_eq 39 35 hk dX11_start_32 rfl rfl ?_ ?_
      · skip
        refine vv_iconst 40 hk dX11_start_39 rfl ic_0 ?_
        exact vv_le (ll_s rfl (ll_s rfl (ll_s rfl ll_0))) (hk40 (0 : Int32))
      · skip
        refine vv_iconst 36 hk dX11_start_35 rfl ic_1 ?_
        refine vv_goto 40 hk dX11_start_36 rfl ?_
        exact vv_le (ll_s rfl (ll_s rfl (ll_s rfl ll_0))) (hk40 (1 : Int32))
theorem c_X11_ticks (G : GT) (a1 : Int32) (σ : Hp) : CtI G true yX11_ticks cX11_ticks 4 (some .int) 3 [(rf G 0), (.int a1)] (f_X11_ticks a1 σ) σ := by
  refine ctI (L0 := [some (rf G 0), some (.int a1), none, none]) (by decide +kernel) rfl rfl rfl (fun κ hk he hret => ?_)
  have hk : KO G κ cX11_ticks RX11 3 := hk
  refine vv_aload_n (i := 0) 1 hk dX11_ticks_0 rfl rfl rfl ?_
  refine vv_iconst 2 hk dX11_ticks_1 rfl ic_0 ?_
  refine vv_iconst 3 hk dX11_ticks_2 rfl ic_0 ?_
  refine vv_iload_n (i := 1) 4 hk dX11_ticks_3 rfl rfl rfl ?_
  refine vv_iconst 5 hk dX11_ticks_4 rfl ic_1 ?_
  refine vv_jn (fun t1 => (σ, 13, [some (rf G 0), some (.int a1), none, none], [(.int t1), (.int (0 : Int32)), (.int (0 : Int32)), (rf G 0)])) (fun t1 => ?_) (fun k13 hk13 => ?_)
  · skip
    refine vv_iload_n (i := 1) 14 hk dX11_ticks_13 rfl rfl rfl ?_
    refine vv_sipush 17 hk dX11_ticks_14 rfl sp_200 ?_
    refine vv_jn (fun t2 => (σ, 40, [some (rf G 0), some (.int a1), none, none], [(.int t2), (.int t1), (.int (0 : Int32)), (.int (0 : Int32)), (rf G 0)])) (fun t2 => ?_) (fun k40 hk40 => ?_)
    · skip
      refine vv_invI (st := []) 43 hk he dX11_ticks_40 rfl ml_11_107 cf_X11_refusal la_0 ci_11 (c_X11_refusal G (0 : Int32) (0 : Int32) t1 t2 σ) rfl rfl rfl rfl (fun v3 σ4 => ?_)
      refine vv_istore_n (i := 2) 44 [some (rf G 0), some (.int a1), some (.int v3), none] hk dX11_ticks_43 rfl rfl rfl rfl ?_
      refine vv_iload_n (i := 2) 45 hk dX11_ticks_44 rfl rfl rfl ?_
      refine vv_if_eq 50 48 hk dX11_ticks_45 rfl rfl ?_ ?_
      · skip
        refine vv_aload_n (i := 0) 51 hk dX11_ticks_50 rfl rfl rfl ?_
        refine vv_getR 54 hk dX11_ticks_51 rfl la_0 rfl ci_11 rfl fl_11_29 ?_
        refine vv_invV (st := []) 57 hk he dX11_ticks_54 rfl ml_11_111 cf_X0_forget la_25 ci_0 (c_X0_forget G σ4) rfl rfl rfl rfl (fun σ5 => ?_)
        refine vv_iconst 58 hk dX11_ticks_57 rfl ic_0 ?_
        refine vv_istore_n (i := 3) 59 [some (rf G 0), some (.int a1), some (.int v3), some (.int (0 : Int32))] hk dX11_ticks_58 rfl rfl rfl rfl ?_
        refine vv_jn (fun t6 => (t6, 81, [some (rf G 0), none, none, none], [])) (fun t6 => ?_) (fun k81 hk81 => ?_)
        · skip
          refine vv_aload_n (i := 0) 82 hk dX11_ticks_81 rfl rfl rfl ?_
          refine vv_getR 85 hk dX11_ticks_82 rfl la_0 rfl ci_11 rfl fl_11_19 ?_
          refine vv_getI 88 hk he dX11_ticks_85 rfl la_13 rfl ci_4 rfl fl_11_152 sd_13 ?_
          exact hret _ _ _ _ dX11_ticks_88
        · skip
          refine vv_le (L' := [some (rf G 0), some (.int a1), none, some (.int (0 : Int32))]) (ll_s rfl (ll_s rfl (ll_n (ll_s rfl ll_0)))) ?_
          refine vv_lp (fun t7 => (t7.2, 59, [some (rf G 0), some (.int a1), none, some (.int t7.1)], [])) (fun kl59 hkl59 t7 => ?_) FU ((0 : Int32), σ5)
          refine vv_iload_n (i := 3) 60 hk dX11_ticks_59 rfl rfl rfl ?_
          refine vv_iload_n (i := 1) 61 hk dX11_ticks_60 rfl rfl rfl ?_
          refine vv_icmp_ge 81 64 hk dX11_ticks_61 rfl rfl ?_ ?_
          · skip
            exact vv_le (ll_s rfl (ll_n (ll_n (ll_n ll_0)))) (hk81 t7.2)
          · skip
            refine vv_aload_n (i := 0) 65 hk dX11_ticks_64 rfl rfl rfl ?_
            refine vv_getR 68 hk dX11_ticks_65 rfl la_0 rfl ci_11 rfl fl_11_19 ?_
            refine vv_aload_n (i := 0) 69 hk dX11_ticks_68 rfl rfl rfl ?_
            refine vv_getR 72 hk dX11_ticks_69 rfl la_0 rfl ci_11 rfl fl_11_10 ?_
            refine vv_invV (st := []) 75 hk he dX11_ticks_72 rfl ml_11_155 cf_X4_pass la_13 ci_4 (c_X4_pass_13 G t7.2) rfl rfl rfl rfl (fun σ8 => ?_)
            refine vv_iinc 78 (fun x9 => [some (rf G 0), some (.int a1), none, some (.int x9)]) hk dX11_ticks_75 rfl rfl ic_1 (fun _ => rfl) (fun x9 => ?_)
            refine vv_goto 59 hk dX11_ticks_78 rfl ?_
            exact vv_le (ll_s rfl (ll_s rfl (ll_n (ll_s rfl ll_0)))) (hkl59 (x9, σ8))
      · skip
        refine vv_iload_n (i := 2) 49 hk dX11_ticks_48 rfl rfl rfl ?_
        exact hret _ _ _ _ dX11_ticks_49
    · skip
      refine vv_jn (fun t10 => (σ, 35, [some (rf G 0), some (.int a1), none, none], [(.int t1), (.int (0 : Int32)), (.int (0 : Int32)), (rf G 0)])) (fun t10 => ?_) (fun k35 hk35 => ?_)
      · skip
        refine vv_iconst 36 hk dX11_ticks_35 rfl ic_1 ?_
        refine vv_goto 40 hk dX11_ticks_36 rfl ?_
        exact vv_le (ll_s rfl (ll_s rfl (ll_n (ll_n ll_0)))) (hk40 (1 : Int32))
      · skip
        refine vv_icmp_gt 35 20 hk dX11_ticks_17 rfl rfl ?_ ?_
        · skip
          exact vv_le (ll_s rfl (ll_s rfl (ll_n (ll_n ll_0)))) (hk35 ())
        · skip
          refine vv_iload_n (i := 1) 21 hk dX11_ticks_20 rfl rfl rfl ?_
          refine vv_sipush 24 hk dX11_ticks_21 rfl sp_5000 ?_
          refine vv_aload_n (i := 0) 25 hk dX11_ticks_24 rfl rfl rfl ?_
          refine vv_getR 28 hk dX11_ticks_25 rfl la_0 rfl ci_11 rfl fl_11_19 ?_
          refine vv_getI 31 hk he dX11_ticks_28 rfl la_13 rfl ci_4 rfl fl_11_152 sd_13 ?_
          refine vv_isub 32 hk dX11_ticks_31 rfl ?_
          refine vv_icmp_le 39 35 hk dX11_ticks_32 rfl rfl ?_ ?_
          · skip
            refine vv_iconst 40 hk dX11_ticks_39 rfl ic_0 ?_
            exact vv_le (ll_s rfl (ll_s rfl (ll_n (ll_n ll_0)))) (hk40 (0 : Int32))
          · skip
            exact vv_le (ll_s rfl (ll_s rfl (ll_n (ll_n ll_0)))) (hk35 ())
  · skip
    refine vv_icmp_ge 12 8 hk dX11_ticks_5 rfl rfl ?_ ?_
    · skip
      refine vv_iconst 13 hk dX11_ticks_12 rfl ic_0 ?_
      exact vv_le (ll_s rfl (ll_s rfl (ll_n (ll_n ll_0)))) (hk13 (0 : Int32))
    · skip
      refine vv_iconst 9 hk dX11_ticks_8 rfl ic_1 ?_
      refine vv_goto 13 hk dX11_ticks_9 rfl ?_
      exact vv_le (ll_s rfl (ll_s rfl (ll_n (ll_n ll_0)))) (hk13 (1 : Int32))
theorem c_X11_trueGas (G : GT) (a1 : Int32) (a2 : Int32) (σ : Hp) : CtI G true yX11_trueGas cX11_trueGas 4 (some .int) 4 [(rf G 0), (.int a1), (.int a2)] (f_X11_trueGas a1 a2 σ) σ := by
  refine ctI (L0 := [some (rf G 0), some (.int a1), some (.int a2), none]) (by decide +kernel) rfl rfl rfl (fun κ hk he hret => ?_)
  have hk : KO G κ cX11_trueGas RX11 4 := hk
  refine vv_aload_n (i := 0) 1 hk dX11_trueGas_0 rfl rfl rfl ?_
  refine vv_iconst 2 hk dX11_trueGas_1 rfl ic_0 ?_
  refine vv_iload_n (i := 2) 3 hk dX11_trueGas_2 rfl rfl rfl ?_
  refine vv_bipush 5 hk dX11_trueGas_3 rfl bp_8 ?_
  refine vv_staIr (st := [(.int (0 : Int32)), (rf G 0)]) 8 hk he dX11_trueGas_5 rfl ml_11_99 sf_X11_within (c_X11_within G a2 (8 : Int32) σ) rfl rfl rfl rfl (fun v1 => ?_)
  refine vv_jn (fun t2 => (σ, 16, [some (rf G 0), some (.int a1), some (.int a2), none], [(.int t2), (.int (0 : Int32)), (rf G 0)])) (fun t2 => ?_) (fun k16 hk16 => ?_)
  · skip
    refine vv_iload_n (i := 1) 17 hk dX11_trueGas_16 rfl rfl rfl ?_
    refine vv_jn (fun t3 => (σ, 25, [some (rf G 0), some (.int a1), some (.int a2), none], [(.int t3), (.int t2), (.int (0 : Int32)), (rf G 0)])) (fun t3 => ?_) (fun k25 hk25 => ?_)
    · skip
      refine vv_iload_n (i := 1) 26 hk dX11_trueGas_25 rfl rfl rfl ?_
      refine vv_bipush 28 hk dX11_trueGas_26 rfl bp_9 ?_
      refine vv_jn (fun t4 => (σ, 36, [some (rf G 0), some (.int a1), some (.int a2), none], [(.int t4), (.int t3), (.int t2), (.int (0 : Int32)), (rf G 0)])) (fun t4 => ?_) (fun k36 hk36 => ?_)
      · skip
        refine vv_invI (st := []) 39 hk he dX11_trueGas_36 rfl ml_11_107 cf_X11_refusal la_0 ci_11 (c_X11_refusal G (0 : Int32) t2 t3 t4 σ) rfl rfl rfl rfl (fun v5 σ6 => ?_)
        refine vv_istore_n (i := 3) 40 [some (rf G 0), some (.int a1), some (.int a2), some (.int v5)] hk dX11_trueGas_39 rfl rfl rfl rfl ?_
        refine vv_iload_n (i := 3) 41 hk dX11_trueGas_40 rfl rfl rfl ?_
        refine vv_if_eq 46 44 hk dX11_trueGas_41 rfl rfl ?_ ?_
        · skip
          refine vv_iload_n (i := 2) 47 hk dX11_trueGas_46 rfl rfl rfl ?_
          refine vv_bipush 49 hk dX11_trueGas_47 rfl bp_7 ?_
          refine vv_jn (fun t7 => (t7.2, 71, [some (rf G 0), none, none, none], [(.int t7.1)])) (fun t7 => ?_) (fun k71 hk71 => ?_)
          · skip
            exact hret _ _ _ _ dX11_trueGas_71
          · skip
            refine vv_icmp_ne 62 52 hk dX11_trueGas_49 rfl rfl ?_ ?_
            · skip
              refine vv_aload_n (i := 0) 53 hk dX11_trueGas_52 rfl rfl rfl ?_
              refine vv_getR 56 hk dX11_trueGas_53 rfl la_0 rfl ci_11 rfl fl_11_77 ?_
              refine vv_invIr (st := []) 59 hk he dX11_trueGas_56 rfl ml_11_264 cf_X3_hidden la_67 ci_3 (c_X3_hidden G σ6) rfl rfl rfl rfl (fun v8 => ?_)
              refine vv_goto 71 hk dX11_trueGas_59 rfl ?_
              exact vv_le (ll_s rfl (ll_n (ll_n (ll_n ll_0)))) (hk71 (v8, σ6))
            · skip
              refine vv_aload_n (i := 0) 63 hk dX11_trueGas_62 rfl rfl rfl ?_
              refine vv_getR 66 hk dX11_trueGas_63 rfl la_0 rfl ci_11 rfl fl_11_77 ?_
              refine vv_iload_n (i := 1) 67 hk dX11_trueGas_66 rfl rfl rfl ?_
              refine vv_iload_n (i := 2) 68 hk dX11_trueGas_67 rfl rfl rfl ?_
              refine vv_invI (st := []) 71 hk he dX11_trueGas_68 rfl ml_11_268 cf_X3_possible la_67 ci_3 (c_X3_possible G a1 a2 σ6) rfl rfl rfl rfl (fun v9 σ10 => ?_)
              exact vv_le (ll_s rfl (ll_n (ll_n (ll_n ll_0)))) (hk71 (v9, σ10))
        · skip
          refine vv_iload_n (i := 3) 45 hk dX11_trueGas_44 rfl rfl rfl ?_
          exact hret _ _ _ _ dX11_trueGas_45
      · skip
        refine vv_icmp_le 35 31 hk dX11_trueGas_28 rfl rfl ?_ ?_
        · skip
          refine vv_iconst 36 hk dX11_trueGas_35 rfl ic_0 ?_
          exact vv_le (ll_s rfl (ll_s rfl (ll_s rfl (ll_n ll_0)))) (hk36 (0 : Int32))
        · skip
          refine vv_iconst 32 hk dX11_trueGas_31 rfl ic_1 ?_
          refine vv_goto 36 hk dX11_trueGas_32 rfl ?_
          exact vv_le (ll_s rfl (ll_s rfl (ll_s rfl (ll_n ll_0)))) (hk36 (1 : Int32))
    · skip
      refine vv_if_ge 24 20 hk dX11_trueGas_17 rfl rfl ?_ ?_
      · skip
        refine vv_iconst 25 hk dX11_trueGas_24 rfl ic_0 ?_
        exact vv_le (ll_s rfl (ll_s rfl (ll_s rfl (ll_n ll_0)))) (hk25 (0 : Int32))
      · skip
        refine vv_iconst 21 hk dX11_trueGas_20 rfl ic_1 ?_
        refine vv_goto 25 hk dX11_trueGas_21 rfl ?_
        exact vv_le (ll_s rfl (ll_s rfl (ll_s rfl (ll_n ll_0)))) (hk25 (1 : Int32))
  · skip
    refine vv_if_ne 15 11 hk dX11_trueGas_8 rfl rfl ?_ ?_
    · skip
      refine vv_iconst 12 hk dX11_trueGas_11 rfl ic_1 ?_
      refine vv_goto 16 hk dX11_trueGas_12 rfl ?_
      exact vv_le (ll_s rfl (ll_s rfl (ll_s rfl (ll_n ll_0)))) (hk16 (1 : Int32))
    · skip
      refine vv_iconst 16 hk dX11_trueGas_15 rfl ic_0 ?_
      exact vv_le (ll_s rfl (ll_s rfl (ll_s rfl (ll_n ll_0)))) (hk16 (0 : Int32))
theorem c_X11_undo (G : GT) (σ : Hp) : CtI G true yX11_undo cX11_undo 1 (some .int) 1 [(rf G 0)] (f_X11_undo σ) σ := by
  refine ctI (L0 := [some (rf G 0)]) (by decide +kernel) rfl rfl rfl (fun κ hk he hret => ?_)
  have hk : KO G κ cX11_undo RX11 1 := hk
  refine vv_aload_n (i := 0) 1 hk dX11_undo_0 rfl rfl rfl ?_
  refine vv_getR 4 hk dX11_undo_1 rfl la_0 rfl ci_11 rfl fl_11_29 ?_
  refine vv_aload_n (i := 0) 5 hk dX11_undo_4 rfl rfl rfl ?_
  refine vv_getR 8 hk dX11_undo_5 rfl la_0 rfl ci_11 rfl fl_11_10 ?_
  refine vv_aload_n (i := 0) 9 hk dX11_undo_8 rfl rfl rfl ?_
  refine vv_getR 12 hk dX11_undo_9 rfl la_0 rfl ci_11 rfl fl_11_19 ?_
  refine vv_invI (st := []) 15 hk he dX11_undo_12 rfl ml_11_227 cf_X0_takeBack la_25 ci_0 (c_X0_takeBack G σ) rfl rfl rfl rfl (fun v1 σ2 => ?_)
  refine vv_jn (fun t3 => (t3.2, 28, [some (rf G 0)], [(.int t3.1)])) (fun t3 => ?_) (fun k28 hk28 => ?_)
  · skip
    exact hret _ _ _ _ dX11_undo_28
  · skip
    refine vv_if_eq 22 18 hk dX11_undo_15 rfl rfl ?_ ?_
    · skip
      refine vv_aload_n (i := 0) 23 hk dX11_undo_22 rfl rfl rfl ?_
      refine vv_bipush 25 hk dX11_undo_23 rfl bp_m3 ?_
      refine vv_invI (st := []) 28 hk he dX11_undo_25 rfl ml_11_193 cf_X11_refuse la_0 ci_11 (c_X11_refuse G (-3 : Int32) σ2) rfl rfl rfl rfl (fun v4 σ5 => ?_)
      exact vv_le (ll_s rfl ll_0) (hk28 (v4, σ5))
    · skip
      refine vv_iconst 19 hk dX11_undo_18 rfl ic_1 ?_
      refine vv_goto 28 hk dX11_undo_19 rfl ?_
      exact vv_le (ll_s rfl ll_0) (hk28 ((1 : Int32), σ2))
theorem c_X11_unrule (G : GT) (a1 : Int32) (σ : Hp) : CtI G true yX11_unrule cX11_unrule 2 (some .int) 1 [(rf G 0), (.int a1)] (f_X11_unrule a1 σ) σ := by
  refine ctI (L0 := [some (rf G 0), some (.int a1)]) (by decide +kernel) rfl rfl rfl (fun κ hk he hret => ?_)
  have hk : KO G κ cX11_unrule RX11 1 := hk
  refine vv_iload_n (i := 1) 1 hk dX11_unrule_0 rfl rfl rfl ?_
  refine vv_aload_n (i := 0) 2 hk dX11_unrule_1 rfl rfl rfl ?_
  refine vv_getR 5 hk dX11_unrule_2 rfl la_0 rfl ci_11 rfl fl_11_45 ?_
  refine vv_getI 8 hk he dX11_unrule_5 rfl la_32 rfl ci_8 rfl fl_11_190 sd_32 ?_
  refine vv_staIr (st := []) 11 hk he dX11_unrule_8 rfl ml_11_99 sf_X11_within (c_X11_within G a1 (σ.1 32 2) σ) rfl rfl rfl rfl (fun v1 => ?_)
  refine vv_jn (fun t2 => (σ, 25, [some (rf G 0), none], [])) (fun t2 => ?_) (fun k25 hk25 => ?_)
  · skip
    refine vv_aload_n (i := 0) 26 hk dX11_unrule_25 rfl rfl rfl ?_
    refine vv_iconst 27 hk dX11_unrule_26 rfl ic_m1 ?_
    refine vv_invI (st := []) 30 hk he dX11_unrule_27 rfl ml_11_193 cf_X11_refuse la_0 ci_11 (c_X11_refuse G (-1 : Int32) σ) rfl rfl rfl rfl (fun v3 σ4 => ?_)
    exact hret _ _ _ _ dX11_unrule_30
  · skip
    refine vv_if_eq 25 14 hk dX11_unrule_11 rfl rfl ?_ ?_
    · skip
      exact vv_le (ll_s rfl (ll_n ll_0)) (hk25 ())
    · skip
      refine vv_aload_n (i := 0) 15 hk dX11_unrule_14 rfl rfl rfl ?_
      refine vv_getR 18 hk dX11_unrule_15 rfl la_0 rfl ci_11 rfl fl_11_45 ?_
      refine vv_iload_n (i := 1) 19 hk dX11_unrule_18 rfl rfl rfl ?_
      refine vv_invIr (st := []) 22 hk he dX11_unrule_19 rfl ml_11_208 cf_X8_stands la_32 ci_8 (c_X8_stands G a1 σ) rfl rfl rfl rfl (fun v5 => ?_)
      refine vv_if_ne 31 25 hk dX11_unrule_22 rfl rfl ?_ ?_
      · skip
        exact vv_le (ll_s rfl (ll_n ll_0)) (hk25 ())
      · skip
        refine vv_aload_n (i := 0) 32 hk dX11_unrule_31 rfl rfl rfl ?_
        refine vv_getR 35 hk dX11_unrule_32 rfl la_0 rfl ci_11 rfl fl_11_45 ?_
        refine vv_iload_n (i := 1) 36 hk dX11_unrule_35 rfl rfl rfl ?_
        refine vv_invV (st := []) 39 hk he dX11_unrule_36 rfl ml_11_212 cf_X8_drop la_32 ci_8 (c_X8_drop G a1 σ) rfl rfl rfl rfl (fun σ6 => ?_)
        refine vv_iconst 40 hk dX11_unrule_39 rfl ic_1 ?_
        exact hret _ _ _ _ dX11_unrule_40
theorem c_X11_valve (G : GT) (a1 : Int32) (a2 : Int32) (σ : Hp) : CtI G true yX11_valve cX11_valve 3 (some .int) 5 [(rf G 0), (.int a1), (.int a2)] (f_X11_valve a1 a2 σ) σ := by
  refine ctI (L0 := [some (rf G 0), some (.int a1), some (.int a2)]) (by decide +kernel) rfl rfl rfl (fun κ hk he hret => ?_)
  have hk : KO G κ cX11_valve RX11 5 := hk
  refine vv_iload_n (i := 1) 1 hk dX11_valve_0 rfl rfl rfl ?_
  refine vv_aload_n (i := 0) 2 hk dX11_valve_1 rfl rfl rfl ?_
  refine vv_getR 5 hk dX11_valve_2 rfl la_0 rfl ci_11 rfl fl_11_10 ?_
  refine vv_getI 8 hk he dX11_valve_5 rfl la_1 rfl ci_5 rfl fl_11_135 sd_1 ?_
  refine vv_staIr (st := []) 11 hk he dX11_valve_8 rfl ml_11_99 sf_X11_within (c_X11_within G a1 (σ.1 1 6) σ) rfl rfl rfl rfl (fun v1 => ?_)
  refine vv_if_ne 20 14 hk dX11_valve_11 rfl rfl ?_ ?_
  · skip
    refine vv_aload_n (i := 0) 15 hk dX11_valve_14 rfl rfl rfl ?_
    refine vv_iconst 16 hk dX11_valve_15 rfl ic_m1 ?_
    refine vv_invI (st := []) 19 hk he dX11_valve_16 rfl ml_11_193 cf_X11_refuse la_0 ci_11 (c_X11_refuse G (-1 : Int32) σ) rfl rfl rfl rfl (fun v2 σ3 => ?_)
    exact hret _ _ _ _ dX11_valve_19
  · skip
    refine vv_aload_n (i := 0) 21 hk dX11_valve_20 rfl rfl rfl ?_
    refine vv_getR 24 hk dX11_valve_21 rfl la_0 rfl ci_11 rfl fl_11_10 ?_
    refine vv_getI 27 hk he dX11_valve_24 rfl la_1 rfl ci_5 rfl fl_11_220 sd_1 ?_
    refine vv_iload_n (i := 1) 28 hk dX11_valve_27 rfl rfl rfl ?_
    refine vv_ishr 29 hk dX11_valve_28 rfl ?_
    refine vv_iconst 30 hk dX11_valve_29 rfl ic_1 ?_
    refine vv_iand 31 hk dX11_valve_30 rfl ?_
    refine vv_iload_n (i := 2) 32 hk dX11_valve_31 rfl rfl rfl ?_
    refine vv_jn (fun t4 => (σ, 40, [some (rf G 0), some (.int a1), some (.int a2)], [(.int t4), (.int (((σ.1 1 10) >>> (a1 &&& 31)) &&& (1 : Int32)))])) (fun t4 => ?_) (fun k40 hk40 => ?_)
    · skip
      refine vv_icmp_ne 45 43 hk dX11_valve_40 rfl rfl ?_ ?_
      · skip
        refine vv_iconst 44 hk dX11_valve_43 rfl ic_0 ?_
        exact hret _ _ _ _ dX11_valve_44
      · skip
        refine vv_iload_n (i := 2) 46 hk dX11_valve_45 rfl rfl rfl ?_
        refine vv_jn (fun t5 => (σ, 77, [some (rf G 0), some (.int a1), none], [])) (fun t5 => ?_) (fun k77 hk77 => ?_)
        · skip
          refine vv_aload_n (i := 0) 78 hk dX11_valve_77 rfl rfl rfl ?_
          refine vv_getR 81 hk dX11_valve_78 rfl la_0 rfl ci_11 rfl fl_11_29 ?_
          refine vv_iconst 82 hk dX11_valve_81 rfl ic_0 ?_
          refine vv_iload_n (i := 1) 83 hk dX11_valve_82 rfl rfl rfl ?_
          refine vv_aload_n (i := 0) 84 hk dX11_valve_83 rfl rfl rfl ?_
          refine vv_getR 87 hk dX11_valve_84 rfl la_0 rfl ci_11 rfl fl_11_10 ?_
          refine vv_aload_n (i := 0) 88 hk dX11_valve_87 rfl rfl rfl ?_
          refine vv_getR 91 hk dX11_valve_88 rfl la_0 rfl ci_11 rfl fl_11_19 ?_
          refine vv_invV (st := []) 94 hk he dX11_valve_91 rfl ml_11_223 cf_X0_perform la_25 ci_0 (c_X0_perform G (0 : Int32) a1 σ) rfl rfl rfl rfl (fun σ6 => ?_)
          refine vv_iconst 95 hk dX11_valve_94 rfl ic_1 ?_
          exact hret _ _ _ _ dX11_valve_95
        · skip
          refine vv_if_eq 77 49 hk dX11_valve_46 rfl rfl ?_ ?_
          · skip
            exact vv_le (ll_s rfl (ll_s rfl (ll_n ll_0))) (hk77 ())
          · skip
            refine vv_aload_n (i := 0) 50 hk dX11_valve_49 rfl rfl rfl ?_
            refine vv_getR 53 hk dX11_valve_50 rfl la_0 rfl ci_11 rfl fl_11_45 ?_
            refine vv_iload_n (i := 1) 54 hk dX11_valve_53 rfl rfl rfl ?_
            refine vv_iconst 55 hk dX11_valve_54 rfl ic_0 ?_
            refine vv_aload_n (i := 0) 56 hk dX11_valve_55 rfl rfl rfl ?_
            refine vv_getR 59 hk dX11_valve_56 rfl la_0 rfl ci_11 rfl fl_11_10 ?_
            refine vv_getI 62 hk he dX11_valve_59 rfl la_1 rfl ci_5 rfl fl_11_162 sd_1 ?_
            refine vv_invIr (st := []) 65 hk he dX11_valve_62 rfl ml_11_216 cf_X8_forbidder la_32 ci_8 (c_X8_forbidder G a1 (0 : Int32) (σ.1 1 15) σ) rfl rfl rfl rfl (fun v7 => ?_)
            refine vv_bipush 67 hk dX11_valve_65 rfl bp_m9 ?_
            refine vv_icmp_eq 77 70 hk dX11_valve_67 rfl rfl ?_ ?_
            · skip
              exact vv_le (ll_s rfl (ll_s rfl (ll_n ll_0))) (hk77 ())
            · skip
              refine vv_aload_n (i := 0) 71 hk dX11_valve_70 rfl rfl rfl ?_
              refine vv_bipush 73 hk dX11_valve_71 rfl bp_m7 ?_
              refine vv_invI (st := []) 76 hk he dX11_valve_73 rfl ml_11_193 cf_X11_refuse la_0 ci_11 (c_X11_refuse G (-7 : Int32) σ) rfl rfl rfl rfl (fun v8 σ9 => ?_)
              exact hret _ _ _ _ dX11_valve_76
    · skip
      refine vv_if_eq 39 35 hk dX11_valve_32 rfl rfl ?_ ?_
      · skip
        refine vv_iconst 40 hk dX11_valve_39 rfl ic_0 ?_
        exact vv_le (ll_s rfl (ll_s rfl (ll_s rfl ll_0))) (hk40 (0 : Int32))
      · skip
        refine vv_iconst 36 hk dX11_valve_35 rfl ic_1 ?_
        refine vv_goto 40 hk dX11_valve_36 rfl ?_
        exact vv_le (ll_s rfl (ll_s rfl (ll_s rfl ll_0))) (hk40 (1 : Int32))
theorem c_X11_walks (G : GT) (a1 : Int32) (a2 : Int32) (a3 : Int32) (σ : Hp) : CtI G true yX11_walks cX11_walks 5 (some .int) 3 [(rf G 0), (.int a1), (.int a2), (.int a3)] (f_X11_walks a1 a2 a3 σ) σ := by
  refine ctI (L0 := [some (rf G 0), some (.int a1), some (.int a2), some (.int a3), none]) (by decide +kernel) rfl rfl rfl (fun κ hk he hret => ?_)
  have hk : KO G κ cX11_walks RX11 3 := hk
  refine vv_aload_n (i := 0) 1 hk dX11_walks_0 rfl rfl rfl ?_
  refine vv_iload_n (i := 1) 2 hk dX11_walks_1 rfl rfl rfl ?_
  refine vv_iconst 3 hk dX11_walks_2 rfl ic_5 ?_
  refine vv_staIr (st := [(rf G 0)]) 6 hk he dX11_walks_3 rfl ml_11_99 sf_X11_within (c_X11_within G a1 (5 : Int32) σ) rfl rfl rfl rfl (fun v1 => ?_)
  refine vv_jn (fun t2 => (σ, 14, [some (rf G 0), some (.int a1), some (.int a2), some (.int a3), none], [(.int t2), (rf G 0)])) (fun t2 => ?_) (fun k14 hk14 => ?_)
  · skip
    refine vv_iload_n (i := 3) 15 hk dX11_walks_14 rfl rfl rfl ?_
    refine vv_iconst 16 hk dX11_walks_15 rfl ic_3 ?_
    refine vv_staIr (st := [(.int t2), (rf G 0)]) 19 hk he dX11_walks_16 rfl ml_11_99 sf_X11_within (c_X11_within G a3 (3 : Int32) σ) rfl rfl rfl rfl (fun v3 => ?_)
    refine vv_jn (fun t4 => (σ, 27, [some (rf G 0), some (.int a1), some (.int a2), some (.int a3), none], [(.int t4), (.int t2), (rf G 0)])) (fun t4 => ?_) (fun k27 hk27 => ?_)
    · skip
      refine vv_iload_n (i := 2) 28 hk dX11_walks_27 rfl rfl rfl ?_
      refine vv_iconst 29 hk dX11_walks_28 rfl ic_1 ?_
      refine vv_jn (fun t5 => (σ, 37, [some (rf G 0), some (.int a1), some (.int a2), some (.int a3), none], [(.int t5), (.int t4), (.int t2), (rf G 0)])) (fun t5 => ?_) (fun k37 hk37 => ?_)
      · skip
        refine vv_iload_n (i := 2) 38 hk dX11_walks_37 rfl rfl rfl ?_
        refine vv_bipush 40 hk dX11_walks_38 rfl bp_12 ?_
        refine vv_jn (fun t6 => (σ, 48, [some (rf G 0), some (.int a1), some (.int a2), some (.int a3), none], [(.int t6), (.int t5), (.int t4), (.int t2), (rf G 0)])) (fun t6 => ?_) (fun k48 hk48 => ?_)
        · skip
          refine vv_invI (st := []) 51 hk he dX11_walks_48 rfl ml_11_107 cf_X11_refusal la_0 ci_11 (c_X11_refusal G t2 t4 t5 t6 σ) rfl rfl rfl rfl (fun v7 σ8 => ?_)
          refine vv_istore 53 [some (rf G 0), some (.int a1), some (.int a2), some (.int a3), some (.int v7)] hk dX11_walks_51 rfl rfl rfl ?_
          refine vv_iload 55 hk dX11_walks_53 rfl rfl ?_
          refine vv_jn (fun t9 => (t9.2, 73, [some (rf G 0), none, none, none, none], [(.int t9.1)])) (fun t9 => ?_) (fun k73 hk73 => ?_)
          · skip
            exact hret _ _ _ _ dX11_walks_73
          · skip
            refine vv_if_eq 63 58 hk dX11_walks_55 rfl rfl ?_ ?_
            · skip
              refine vv_aload_n (i := 0) 64 hk dX11_walks_63 rfl rfl rfl ?_
              refine vv_getR 67 hk dX11_walks_64 rfl la_0 rfl ci_11 rfl fl_11_70 ?_
              refine vv_iload_n (i := 1) 68 hk dX11_walks_67 rfl rfl rfl ?_
              refine vv_iload_n (i := 2) 69 hk dX11_walks_68 rfl rfl rfl ?_
              refine vv_iload_n (i := 3) 70 hk dX11_walks_69 rfl rfl rfl ?_
              refine vv_invI (st := []) 73 hk he dX11_walks_70 rfl ml_11_251 cf_X2_ways la_63 ci_2 (c_X2_ways G a1 a2 a3 σ8) rfl rfl rfl rfl (fun v10 σ11 => ?_)
              exact vv_le (ll_s rfl (ll_n (ll_n (ll_n (ll_n ll_0))))) (hk73 (v10, σ11))
            · skip
              refine vv_iload 60 hk dX11_walks_58 rfl rfl ?_
              refine vv_goto 73 hk dX11_walks_60 rfl ?_
              exact vv_le (ll_s rfl (ll_n (ll_n (ll_n (ll_n ll_0))))) (hk73 (v7, σ8))
        · skip
          refine vv_icmp_le 47 43 hk dX11_walks_40 rfl rfl ?_ ?_
          · skip
            refine vv_iconst 48 hk dX11_walks_47 rfl ic_0 ?_
            exact vv_le (ll_s rfl (ll_s rfl (ll_s rfl (ll_s rfl (ll_n ll_0))))) (hk48 (0 : Int32))
          · skip
            refine vv_iconst 44 hk dX11_walks_43 rfl ic_1 ?_
            refine vv_goto 48 hk dX11_walks_44 rfl ?_
            exact vv_le (ll_s rfl (ll_s rfl (ll_s rfl (ll_s rfl (ll_n ll_0))))) (hk48 (1 : Int32))
      · skip
        refine vv_icmp_ge 36 32 hk dX11_walks_29 rfl rfl ?_ ?_
        · skip
          refine vv_iconst 37 hk dX11_walks_36 rfl ic_0 ?_
          exact vv_le (ll_s rfl (ll_s rfl (ll_s rfl (ll_s rfl (ll_n ll_0))))) (hk37 (0 : Int32))
        · skip
          refine vv_iconst 33 hk dX11_walks_32 rfl ic_1 ?_
          refine vv_goto 37 hk dX11_walks_33 rfl ?_
          exact vv_le (ll_s rfl (ll_s rfl (ll_s rfl (ll_s rfl (ll_n ll_0))))) (hk37 (1 : Int32))
    · skip
      refine vv_if_ne 26 22 hk dX11_walks_19 rfl rfl ?_ ?_
      · skip
        refine vv_iconst 23 hk dX11_walks_22 rfl ic_1 ?_
        refine vv_goto 27 hk dX11_walks_23 rfl ?_
        exact vv_le (ll_s rfl (ll_s rfl (ll_s rfl (ll_s rfl (ll_n ll_0))))) (hk27 (1 : Int32))
      · skip
        refine vv_iconst 27 hk dX11_walks_26 rfl ic_0 ?_
        exact vv_le (ll_s rfl (ll_s rfl (ll_s rfl (ll_s rfl (ll_n ll_0))))) (hk27 (0 : Int32))
  · skip
    refine vv_if_ne 13 9 hk dX11_walks_6 rfl rfl ?_ ?_
    · skip
      refine vv_iconst 10 hk dX11_walks_9 rfl ic_1 ?_
      refine vv_goto 14 hk dX11_walks_10 rfl ?_
      exact vv_le (ll_s rfl (ll_s rfl (ll_s rfl (ll_s rfl (ll_n ll_0))))) (hk14 (1 : Int32))
    · skip
      refine vv_iconst 14 hk dX11_walks_13 rfl ic_0 ?_
      exact vv_le (ll_s rfl (ll_s rfl (ll_s rfl (ll_s rfl (ll_n ll_0))))) (hk14 (0 : Int32))
theorem c_X11_warm (G : GT) (a1 : Int32) (a2 : Int32) (σ : Hp) : CtI G true yX11_warm cX11_warm 5 (some .int) 2 [(rf G 0), (.int a1), (.int a2)] (f_X11_warm a1 a2 σ) σ := by
  refine ctI (L0 := [some (rf G 0), some (.int a1), some (.int a2), none, none]) (by decide +kernel) rfl rfl rfl (fun κ hk he hret => ?_)
  have hk : KO G κ cX11_warm RX11 2 := hk
  refine vv_aload_n (i := 0) 1 hk dX11_warm_0 rfl rfl rfl ?_
  refine vv_iload_n (i := 1) 2 hk dX11_warm_1 rfl rfl rfl ?_
  refine vv_aload_n (i := 0) 3 hk dX11_warm_2 rfl rfl rfl ?_
  refine vv_getR 6 hk dX11_warm_3 rfl la_0 rfl ci_11 rfl fl_11_10 ?_
  refine vv_getI 9 hk he dX11_warm_6 rfl la_1 rfl ci_5 rfl fl_11_103 sd_1 ?_
  refine vv_staIr (st := [(rf G 0)]) 12 hk he dX11_warm_9 rfl ml_11_99 sf_X11_within (c_X11_within G a1 (σ.1 1 0) σ) rfl rfl rfl rfl (fun v1 => ?_)
  refine vv_jn (fun t2 => (σ, 20, [some (rf G 0), some (.int a1), some (.int a2), none, none], [(.int t2), (rf G 0)])) (fun t2 => ?_) (fun k20 hk20 => ?_)
  · skip
    refine vv_iconst 21 hk dX11_warm_20 rfl ic_0 ?_
    refine vv_iload_n (i := 2) 22 hk dX11_warm_21 rfl rfl rfl ?_
    refine vv_jn (fun t3 => (σ, 30, [some (rf G 0), some (.int a1), some (.int a2), none, none], [(.int t3), (.int (0 : Int32)), (.int t2), (rf G 0)])) (fun t3 => ?_) (fun k30 hk30 => ?_)
    · skip
      refine vv_iload_n (i := 2) 31 hk dX11_warm_30 rfl rfl rfl ?_
      refine vv_bipush 33 hk dX11_warm_31 rfl bp_10 ?_
      refine vv_jn (fun t4 => (σ, 41, [some (rf G 0), some (.int a1), some (.int a2), none, none], [(.int t4), (.int t3), (.int (0 : Int32)), (.int t2), (rf G 0)])) (fun t4 => ?_) (fun k41 hk41 => ?_)
      · skip
        refine vv_invI (st := []) 44 hk he dX11_warm_41 rfl ml_11_107 cf_X11_refusal la_0 ci_11 (c_X11_refusal G t2 (0 : Int32) t3 t4 σ) rfl rfl rfl rfl (fun v5 σ6 => ?_)
        refine vv_istore_n (i := 3) 45 [some (rf G 0), some (.int a1), some (.int a2), some (.int v5), none] hk dX11_warm_44 rfl rfl rfl rfl ?_
        refine vv_iload_n (i := 3) 46 hk dX11_warm_45 rfl rfl rfl ?_
        refine vv_if_eq 51 49 hk dX11_warm_46 rfl rfl ?_ ?_
        · skip
          refine vv_aload_n (i := 0) 52 hk dX11_warm_51 rfl rfl rfl ?_
          refine vv_getR 55 hk dX11_warm_52 rfl la_0 rfl ci_11 rfl fl_11_29 ?_
          refine vv_invV (st := []) 58 hk he dX11_warm_55 rfl ml_11_111 cf_X0_forget la_25 ci_0 (c_X0_forget G σ6) rfl rfl rfl rfl (fun σ7 => ?_)
          refine vv_aload_n (i := 0) 59 hk dX11_warm_58 rfl rfl rfl ?_
          refine vv_getR 62 hk dX11_warm_59 rfl la_0 rfl ci_11 rfl fl_11_10 ?_
          refine vv_getR 65 hk dX11_warm_62 rfl la_1 rfl ci_5 rfl fl_11_118 ?_
          refine vv_iload_n (i := 1) 66 hk dX11_warm_65 rfl rfl rfl ?_
          refine vv_iald 67 hk he dX11_warm_66 rfl la_4 sd_4 (fun v8 => ?_)
          refine vv_istore 69 [some (rf G 0), some (.int a1), some (.int a2), some (.int v5), some (.int v8)] hk dX11_warm_67 rfl rfl rfl ?_
          refine vv_aload_n (i := 0) 70 hk dX11_warm_69 rfl rfl rfl ?_
          refine vv_getR 73 hk dX11_warm_70 rfl la_0 rfl ci_11 rfl fl_11_10 ?_
          refine vv_getR 76 hk dX11_warm_73 rfl la_1 rfl ci_5 rfl fl_11_118 ?_
          refine vv_iload_n (i := 1) 77 hk dX11_warm_76 rfl rfl rfl ?_
          refine vv_iload_n (i := 2) 78 hk dX11_warm_77 rfl rfl rfl ?_
          refine vv_iast 79 hk he dX11_warm_78 rfl la_4 sd_4 (fun σ9 => ?_)
          refine vv_iload 81 hk dX11_warm_79 rfl rfl ?_
          exact hret _ _ _ _ dX11_warm_81
        · skip
          refine vv_iload_n (i := 3) 50 hk dX11_warm_49 rfl rfl rfl ?_
          exact hret _ _ _ _ dX11_warm_50
      · skip
        refine vv_icmp_lt 40 36 hk dX11_warm_33 rfl rfl ?_ ?_
        · skip
          refine vv_iconst 41 hk dX11_warm_40 rfl ic_0 ?_
          exact vv_le (ll_s rfl (ll_s rfl (ll_s rfl (ll_n (ll_n ll_0))))) (hk41 (0 : Int32))
        · skip
          refine vv_iconst 37 hk dX11_warm_36 rfl ic_1 ?_
          refine vv_goto 41 hk dX11_warm_37 rfl ?_
          exact vv_le (ll_s rfl (ll_s rfl (ll_s rfl (ll_n (ll_n ll_0))))) (hk41 (1 : Int32))
    · skip
      refine vv_if_ge 29 25 hk dX11_warm_22 rfl rfl ?_ ?_
      · skip
        refine vv_iconst 30 hk dX11_warm_29 rfl ic_0 ?_
        exact vv_le (ll_s rfl (ll_s rfl (ll_s rfl (ll_n (ll_n ll_0))))) (hk30 (0 : Int32))
      · skip
        refine vv_iconst 26 hk dX11_warm_25 rfl ic_1 ?_
        refine vv_goto 30 hk dX11_warm_26 rfl ?_
        exact vv_le (ll_s rfl (ll_s rfl (ll_s rfl (ll_n (ll_n ll_0))))) (hk30 (1 : Int32))
  · skip
    refine vv_if_ne 19 15 hk dX11_warm_12 rfl rfl ?_ ?_
    · skip
      refine vv_iconst 16 hk dX11_warm_15 rfl ic_1 ?_
      refine vv_goto 20 hk dX11_warm_16 rfl ?_
      exact vv_le (ll_s rfl (ll_s rfl (ll_s rfl (ll_n (ll_n ll_0))))) (hk20 (1 : Int32))
    · skip
      refine vv_iconst 20 hk dX11_warm_19 rfl ic_0 ?_
      exact vv_le (ll_s rfl (ll_s rfl (ll_s rfl (ll_n (ll_n ll_0))))) (hk20 (0 : Int32))
theorem c_X11_warmUp (G : GT) (a1 : Int32) (σ : Hp) : CtI G true yX11_warmUp cX11_warmUp 2 (some .int) 2 [(rf G 0), (.int a1)] (f_X11_warmUp a1 σ) σ := by
  refine ctI (L0 := [some (rf G 0), some (.int a1)]) (by decide +kernel) rfl rfl rfl (fun κ hk he hret => ?_)
  have hk : KO G κ cX11_warmUp RX11 2 := hk
  refine vv_iload_n (i := 1) 1 hk dX11_warmUp_0 rfl rfl rfl ?_
  refine vv_aload_n (i := 0) 2 hk dX11_warmUp_1 rfl rfl rfl ?_
  refine vv_getR 5 hk dX11_warmUp_2 rfl la_0 rfl ci_11 rfl fl_11_10 ?_
  refine vv_getI 8 hk he dX11_warmUp_5 rfl la_1 rfl ci_5 rfl fl_11_142 sd_1 ?_
  refine vv_staIr (st := []) 11 hk he dX11_warmUp_8 rfl ml_11_99 sf_X11_within (c_X11_within G a1 (σ.1 1 11) σ) rfl rfl rfl rfl (fun v1 => ?_)
  refine vv_if_ne 20 14 hk dX11_warmUp_11 rfl rfl ?_ ?_
  · skip
    refine vv_aload_n (i := 0) 15 hk dX11_warmUp_14 rfl rfl rfl ?_
    refine vv_iconst 16 hk dX11_warmUp_15 rfl ic_m1 ?_
    refine vv_invI (st := []) 19 hk he dX11_warmUp_16 rfl ml_11_193 cf_X11_refuse la_0 ci_11 (c_X11_refuse G (-1 : Int32) σ) rfl rfl rfl rfl (fun v2 σ3 => ?_)
    exact hret _ _ _ _ dX11_warmUp_19
  · skip
    refine vv_aload_n (i := 0) 21 hk dX11_warmUp_20 rfl rfl rfl ?_
    refine vv_getR 24 hk dX11_warmUp_21 rfl la_0 rfl ci_11 rfl fl_11_10 ?_
    refine vv_getR 27 hk dX11_warmUp_24 rfl la_1 rfl ci_5 rfl fl_11_168 ?_
    refine vv_iload_n (i := 1) 28 hk dX11_warmUp_27 rfl rfl rfl ?_
    refine vv_iald 29 hk he dX11_warmUp_28 rfl la_12 sd_12 (fun v4 => ?_)
    refine vv_if_ne 39 32 hk dX11_warmUp_29 rfl rfl ?_ ?_
    · skip
      refine vv_aload_n (i := 0) 33 hk dX11_warmUp_32 rfl rfl rfl ?_
      refine vv_bipush 35 hk dX11_warmUp_33 rfl bp_m3 ?_
      refine vv_invI (st := []) 38 hk he dX11_warmUp_35 rfl ml_11_193 cf_X11_refuse la_0 ci_11 (c_X11_refuse G (-3 : Int32) σ) rfl rfl rfl rfl (fun v5 σ6 => ?_)
      exact hret _ _ _ _ dX11_warmUp_38
    · skip
      refine vv_aload_n (i := 0) 40 hk dX11_warmUp_39 rfl rfl rfl ?_
      refine vv_getR 43 hk dX11_warmUp_40 rfl la_0 rfl ci_11 rfl fl_11_19 ?_
      refine vv_getI 46 hk he dX11_warmUp_43 rfl la_13 rfl ci_4 rfl fl_11_165 sd_13 ?_
      refine vv_iload_n (i := 1) 47 hk dX11_warmUp_46 rfl rfl rfl ?_
      refine vv_ishr 48 hk dX11_warmUp_47 rfl ?_
      refine vv_iconst 49 hk dX11_warmUp_48 rfl ic_1 ?_
      refine vv_iand 50 hk dX11_warmUp_49 rfl ?_
      refine vv_iconst 51 hk dX11_warmUp_50 rfl ic_1 ?_
      refine vv_icmp_ne 56 54 hk dX11_warmUp_51 rfl rfl ?_ ?_
      · skip
        refine vv_iconst 55 hk dX11_warmUp_54 rfl ic_0 ?_
        exact hret _ _ _ _ dX11_warmUp_55
      · skip
        refine vv_aload_n (i := 0) 57 hk dX11_warmUp_56 rfl rfl rfl ?_
        refine vv_getR 60 hk dX11_warmUp_57 rfl la_0 rfl ci_11 rfl fl_11_29 ?_
        refine vv_iconst 61 hk dX11_warmUp_60 rfl ic_2 ?_
        refine vv_iload_n (i := 1) 62 hk dX11_warmUp_61 rfl rfl rfl ?_
        refine vv_aload_n (i := 0) 63 hk dX11_warmUp_62 rfl rfl rfl ?_
        refine vv_getR 66 hk dX11_warmUp_63 rfl la_0 rfl ci_11 rfl fl_11_10 ?_
        refine vv_aload_n (i := 0) 67 hk dX11_warmUp_66 rfl rfl rfl ?_
        refine vv_getR 70 hk dX11_warmUp_67 rfl la_0 rfl ci_11 rfl fl_11_19 ?_
        refine vv_invV (st := []) 73 hk he dX11_warmUp_70 rfl ml_11_223 cf_X0_perform la_25 ci_0 (c_X0_perform G (2 : Int32) a1 σ) rfl rfl rfl rfl (fun σ7 => ?_)
        refine vv_iconst 74 hk dX11_warmUp_73 rfl ic_1 ?_
        exact hret _ _ _ _ dX11_warmUp_74
theorem c_X11_when (G : GT) (a1 : Int32) (a2 : Int32) (a3 : Int32) (σ : Hp) : CtI G true yX11_when cX11_when 6 (some .int) 3 [(rf G 0), (.int a1), (.int a2), (.int a3)] (f_X11_when a1 a2 a3 σ) σ := by
  refine ctI (L0 := [some (rf G 0), some (.int a1), some (.int a2), some (.int a3), none, none]) (by decide +kernel) rfl rfl rfl (fun κ hk he hret => ?_)
  have hk : KO G κ cX11_when RX11 3 := hk
  refine vv_aload_n (i := 0) 1 hk dX11_when_0 rfl rfl rfl ?_
  refine vv_iload_n (i := 1) 2 hk dX11_when_1 rfl rfl rfl ?_
  refine vv_aload_n (i := 0) 3 hk dX11_when_2 rfl rfl rfl ?_
  refine vv_getR 6 hk dX11_when_3 rfl la_0 rfl ci_11 rfl fl_11_10 ?_
  refine vv_getI 9 hk he dX11_when_6 rfl la_1 rfl ci_5 rfl fl_11_103 sd_1 ?_
  refine vv_staIr (st := [(rf G 0)]) 12 hk he dX11_when_9 rfl ml_11_99 sf_X11_within (c_X11_within G a1 (σ.1 1 0) σ) rfl rfl rfl rfl (fun v1 => ?_)
  refine vv_jn (fun t2 => (σ, 20, [some (rf G 0), some (.int a1), some (.int a2), some (.int a3), none, none], [(.int t2), (rf G 0)])) (fun t2 => ?_) (fun k20 hk20 => ?_)
  · skip
    refine vv_iconst 21 hk dX11_when_20 rfl ic_0 ?_
    refine vv_iload_n (i := 2) 22 hk dX11_when_21 rfl rfl rfl ?_
    refine vv_jn (fun t3 => (σ, 35, [some (rf G 0), some (.int a1), some (.int a2), some (.int a3), none, none], [(.int t3), (.int (0 : Int32)), (.int t2), (rf G 0)])) (fun t3 => ?_) (fun k35 hk35 => ?_)
    · skip
      refine vv_iload_n (i := 2) 36 hk dX11_when_35 rfl rfl rfl ?_
      refine vv_ldc 38 hk dX11_when_36 rfl cw_11_178 ?_
      refine vv_jn (fun t4 => (σ, 53, [some (rf G 0), some (.int a1), some (.int a2), some (.int a3), none, none], [(.int t4), (.int t3), (.int (0 : Int32)), (.int t2), (rf G 0)])) (fun t4 => ?_) (fun k53 hk53 => ?_)
      · skip
        refine vv_invI (st := []) 56 hk he dX11_when_53 rfl ml_11_107 cf_X11_refusal la_0 ci_11 (c_X11_refusal G t2 (0 : Int32) t3 t4 σ) rfl rfl rfl rfl (fun v5 σ6 => ?_)
        refine vv_istore 58 [some (rf G 0), some (.int a1), some (.int a2), some (.int a3), some (.int v5), none] hk dX11_when_56 rfl rfl rfl ?_
        refine vv_iload 60 hk dX11_when_58 rfl rfl ?_
        refine vv_if_eq 66 63 hk dX11_when_60 rfl rfl ?_ ?_
        · skip
          refine vv_aload_n (i := 0) 67 hk dX11_when_66 rfl rfl rfl ?_
          refine vv_getR 70 hk dX11_when_67 rfl la_0 rfl ci_11 rfl fl_11_23 ?_
          refine vv_aload_n (i := 0) 71 hk dX11_when_70 rfl rfl rfl ?_
          refine vv_getR 74 hk dX11_when_71 rfl la_0 rfl ci_11 rfl fl_11_19 ?_
          refine vv_invV (st := []) 77 hk he dX11_when_74 rfl ml_11_179 cf_X4_become la_19 ci_4 (c_X4_become_19 G σ6) rfl rfl rfl rfl (fun σ7 => ?_)
          refine vv_iconst 78 hk dX11_when_77 rfl ic_0 ?_
          refine vv_istore 80 [some (rf G 0), some (.int a1), some (.int a2), some (.int a3), some (.int v5), some (.int (0 : Int32))] hk dX11_when_78 rfl rfl rfl ?_
          refine vv_jn (fun t8 => (t8, 126, [some (rf G 0), none, none, none, none, none], [])) (fun t8 => ?_) (fun k126 hk126 => ?_)
          · skip
            refine vv_aload_n (i := 0) 127 hk dX11_when_126 rfl rfl rfl ?_
            refine vv_getR 130 hk dX11_when_127 rfl la_0 rfl ci_11 rfl fl_11_23 ?_
            refine vv_getI 133 hk he dX11_when_130 rfl la_19 rfl ci_4 rfl fl_11_152 sd_19 ?_
            exact hret _ _ _ _ dX11_when_133
          · skip
            refine vv_le (L' := [some (rf G 0), some (.int a1), some (.int a2), some (.int a3), none, some (.int (0 : Int32))]) (ll_s rfl (ll_s rfl (ll_s rfl (ll_s rfl (ll_n (ll_s rfl ll_0)))))) ?_
            refine vv_lp (fun t9 => (t9.2, 80, [some (rf G 0), some (.int a1), some (.int a2), some (.int a3), none, some (.int t9.1)], [])) (fun kl80 hkl80 t9 => ?_) FU ((0 : Int32), σ7)
            refine vv_iload 82 hk dX11_when_80 rfl rfl ?_
            refine vv_iload_n (i := 3) 83 hk dX11_when_82 rfl rfl rfl ?_
            refine vv_icmp_ge 140 86 hk dX11_when_83 rfl rfl ?_ ?_
            · skip
              refine vv_bipush 142 hk dX11_when_140 rfl bp_m9 ?_
              exact hret _ _ _ _ dX11_when_142
            · skip
              refine vv_aload_n (i := 0) 87 hk dX11_when_86 rfl rfl rfl ?_
              refine vv_getR 90 hk dX11_when_87 rfl la_0 rfl ci_11 rfl fl_11_23 ?_
              refine vv_getI 93 hk he dX11_when_90 rfl la_19 rfl ci_4 rfl fl_11_152 sd_19 ?_
              refine vv_sipush 96 hk dX11_when_93 rfl sp_5000 ?_
              refine vv_icmp_ge 140 99 hk dX11_when_96 rfl rfl ?_ ?_
              · skip
                refine vv_bipush 142 hk dX11_when_140 rfl bp_m9 ?_
                exact hret _ _ _ _ dX11_when_142
              · skip
                refine vv_aload_n (i := 0) 100 hk dX11_when_99 rfl rfl rfl ?_
                refine vv_getR 103 hk dX11_when_100 rfl la_0 rfl ci_11 rfl fl_11_23 ?_
                refine vv_aload_n (i := 0) 104 hk dX11_when_103 rfl rfl rfl ?_
                refine vv_getR 107 hk dX11_when_104 rfl la_0 rfl ci_11 rfl fl_11_10 ?_
                refine vv_invV (st := []) 110 hk he dX11_when_107 rfl ml_11_155 cf_X4_pass la_19 ci_4 (c_X4_pass_19 G t9.2) rfl rfl rfl rfl (fun σ10 => ?_)
                refine vv_aload_n (i := 0) 111 hk dX11_when_110 rfl rfl rfl ?_
                refine vv_getR 114 hk dX11_when_111 rfl la_0 rfl ci_11 rfl fl_11_23 ?_
                refine vv_aload_n (i := 0) 115 hk dX11_when_114 rfl rfl rfl ?_
                refine vv_getR 118 hk dX11_when_115 rfl la_0 rfl ci_11 rfl fl_11_10 ?_
                refine vv_iload_n (i := 1) 119 hk dX11_when_118 rfl rfl rfl ?_
                refine vv_invIr (st := []) 122 hk he dX11_when_119 rfl ml_11_158 cf_X4_push la_19 ci_4 (c_X4_push_19 G a1 σ10) rfl rfl rfl rfl (fun v11 => ?_)
                refine vv_iload_n (i := 2) 123 hk dX11_when_122 rfl rfl rfl ?_
                refine vv_icmp_ge 134 126 hk dX11_when_123 rfl rfl ?_ ?_
                · skip
                  refine vv_iinc 137 (fun x12 => [some (rf G 0), some (.int a1), some (.int a2), some (.int a3), none, some (.int x12)]) hk dX11_when_134 rfl rfl ic_1 (fun _ => rfl) (fun x12 => ?_)
                  refine vv_goto 80 hk dX11_when_137 rfl ?_
                  exact vv_le (ll_s rfl (ll_s rfl (ll_s rfl (ll_s rfl (ll_n (ll_s rfl ll_0)))))) (hkl80 (x12, σ10))
                · skip
                  exact vv_le (ll_s rfl (ll_n (ll_n (ll_n (ll_n (ll_n ll_0)))))) (hk126 σ10)
        · skip
          refine vv_iload 65 hk dX11_when_63 rfl rfl ?_
          exact hret _ _ _ _ dX11_when_65
      · skip
        refine vv_jn (fun t13 => (σ, 48, [some (rf G 0), some (.int a1), some (.int a2), some (.int a3), none, none], [(.int t3), (.int (0 : Int32)), (.int t2), (rf G 0)])) (fun t13 => ?_) (fun k48 hk48 => ?_)
        · skip
          refine vv_iconst 49 hk dX11_when_48 rfl ic_1 ?_
          refine vv_goto 53 hk dX11_when_49 rfl ?_
          exact vv_le (ll_s rfl (ll_s rfl (ll_s rfl (ll_s rfl (ll_n (ll_n ll_0)))))) (hk53 (1 : Int32))
        · skip
          refine vv_icmp_gt 48 41 hk dX11_when_38 rfl rfl ?_ ?_
          · skip
            exact vv_le (ll_s rfl (ll_s rfl (ll_s rfl (ll_s rfl (ll_n (ll_n ll_0)))))) (hk48 ())
          · skip
            refine vv_iload_n (i := 3) 42 hk dX11_when_41 rfl rfl rfl ?_
            refine vv_sipush 45 hk dX11_when_42 rfl sp_300 ?_
            refine vv_icmp_le 52 48 hk dX11_when_45 rfl rfl ?_ ?_
            · skip
              refine vv_iconst 53 hk dX11_when_52 rfl ic_0 ?_
              exact vv_le (ll_s rfl (ll_s rfl (ll_s rfl (ll_s rfl (ll_n (ll_n ll_0)))))) (hk53 (0 : Int32))
            · skip
              exact vv_le (ll_s rfl (ll_s rfl (ll_s rfl (ll_s rfl (ll_n (ll_n ll_0)))))) (hk48 ())
    · skip
      refine vv_jn (fun t14 => (σ, 30, [some (rf G 0), some (.int a1), some (.int a2), some (.int a3), none, none], [(.int (0 : Int32)), (.int t2), (rf G 0)])) (fun t14 => ?_) (fun k30 hk30 => ?_)
      · skip
        refine vv_iconst 31 hk dX11_when_30 rfl ic_1 ?_
        refine vv_goto 35 hk dX11_when_31 rfl ?_
        exact vv_le (ll_s rfl (ll_s rfl (ll_s rfl (ll_s rfl (ll_n (ll_n ll_0)))))) (hk35 (1 : Int32))
      · skip
        refine vv_if_lt 30 25 hk dX11_when_22 rfl rfl ?_ ?_
        · skip
          exact vv_le (ll_s rfl (ll_s rfl (ll_s rfl (ll_s rfl (ll_n (ll_n ll_0)))))) (hk30 ())
        · skip
          refine vv_iload_n (i := 3) 26 hk dX11_when_25 rfl rfl rfl ?_
          refine vv_iconst 27 hk dX11_when_26 rfl ic_1 ?_
          refine vv_icmp_ge 34 30 hk dX11_when_27 rfl rfl ?_ ?_
          · skip
            refine vv_iconst 35 hk dX11_when_34 rfl ic_0 ?_
            exact vv_le (ll_s rfl (ll_s rfl (ll_s rfl (ll_s rfl (ll_n (ll_n ll_0)))))) (hk35 (0 : Int32))
          · skip
            exact vv_le (ll_s rfl (ll_s rfl (ll_s rfl (ll_s rfl (ll_n (ll_n ll_0)))))) (hk30 ())
  · skip
    refine vv_if_ne 19 15 hk dX11_when_12 rfl rfl ?_ ?_
    · skip
      refine vv_iconst 16 hk dX11_when_15 rfl ic_1 ?_
      refine vv_goto 20 hk dX11_when_16 rfl ?_
      exact vv_le (ll_s rfl (ll_s rfl (ll_s rfl (ll_s rfl (ll_n (ll_n ll_0)))))) (hk20 (1 : Int32))
    · skip
      refine vv_iconst 20 hk dX11_when_19 rfl ic_0 ?_
      exact vv_le (ll_s rfl (ll_s rfl (ll_s rfl (ll_s rfl (ll_n (ll_n ll_0)))))) (hk20 (0 : Int32))
