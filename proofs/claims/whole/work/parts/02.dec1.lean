def RJ6 : String := "java/lang/Integer"
abbrev cJ6_bitCount_0f7a4 : ByteArray := prog_15_method_49_code
def yJ6_bitCount_0f7a4 : MethodName := ⟨RJ6, "bitCount", "(I)I"⟩
def RJ9 : String := "java/lang/Math"
abbrev cJ9_floorDiv_7cf53 : ByteArray := prog_16_method_47_code
def yJ9_floorDiv_7cf53 : MethodName := ⟨RJ9, "floorDiv", "(II)I"⟩
abbrev cJ9_abs_067f4 : ByteArray := prog_16_method_61_code
def yJ9_abs_067f4 : MethodName := ⟨RJ9, "abs", "(J)J"⟩
abbrev cJ9_max_7cf53 : ByteArray := prog_16_method_65_code
def yJ9_max_7cf53 : MethodName := ⟨RJ9, "max", "(II)I"⟩
abbrev cJ9_min_7cf53 : ByteArray := prog_16_method_69_code
def yJ9_min_7cf53 : MethodName := ⟨RJ9, "min", "(II)I"⟩
abbrev cJ9_min_f86c9 : ByteArray := prog_16_method_70_code
def yJ9_min_f86c9 : MethodName := ⟨RJ9, "min", "(JJ)J"⟩
def RJ10 : String := "java/lang/System"
def RJ7 : String := "java/util/Arrays"
abbrev cJ7_fill_d0a16 : ByteArray := prog_18_method_101_code
def yJ7_fill_d0a16 : MethodName := ⟨RJ7, "fill", "([JJ)V"⟩
abbrev cJ7_fill_53178 : ByteArray := prog_18_method_103_code
def yJ7_fill_53178 : MethodName := ⟨RJ7, "fill", "([II)V"⟩
abbrev cL_law : ByteArray := code
set_option maxRecDepth 100000
theorem dX0_init_0 : decode cX0_init 0 = .ok (.aload_n 0, 1) := by decide +kernel
theorem dX0_init_1 : decode cX0_init 1 = .ok (.invokespecial 1, 3) := by decide +kernel
theorem dX0_init_4 : decode cX0_init 4 = .ok (.aload_n 0, 1) := by decide +kernel
theorem dX0_init_5 : decode cX0_init 5 = .ok (.bipush 30, 2) := by decide +kernel
theorem dX0_init_7 : decode cX0_init 7 = .ok (.newarray .int, 2) := by decide +kernel
theorem dX0_init_9 : decode cX0_init 9 = .ok (.putfield 9, 3) := by decide +kernel
theorem dX0_init_12 : decode cX0_init 12 = .ok (.aload_n 0, 1) := by decide +kernel
theorem dX0_init_13 : decode cX0_init 13 = .ok (.bipush 30, 2) := by decide +kernel
theorem dX0_init_15 : decode cX0_init 15 = .ok (.newarray .int, 2) := by decide +kernel
theorem dX0_init_17 : decode cX0_init 17 = .ok (.putfield 13, 3) := by decide +kernel
theorem dX0_init_20 : decode cX0_init 20 = .ok (.aload_n 0, 1) := by decide +kernel
theorem dX0_init_21 : decode cX0_init 21 = .ok (.bipush 30, 2) := by decide +kernel
theorem dX0_init_23 : decode cX0_init 23 = .ok (.newarray .int, 2) := by decide +kernel
theorem dX0_init_25 : decode cX0_init 25 = .ok (.putfield 16, 3) := by decide +kernel
theorem dX0_init_28 : decode cX0_init 28 = .ok (.return_, 1) := by decide +kernel
theorem dX0_forget_0 : decode cX0_forget 0 = .ok (.aload_n 0, 1) := by decide +kernel
theorem dX0_forget_1 : decode cX0_forget 1 = .ok (.iconst 0, 1) := by decide +kernel
theorem dX0_forget_2 : decode cX0_forget 2 = .ok (.putfield 19, 3) := by decide +kernel
theorem dX0_forget_5 : decode cX0_forget 5 = .ok (.aload_n 0, 1) := by decide +kernel
theorem dX0_forget_6 : decode cX0_forget 6 = .ok (.iconst 0, 1) := by decide +kernel
theorem dX0_forget_7 : decode cX0_forget 7 = .ok (.putfield 23, 3) := by decide +kernel
theorem dX0_forget_10 : decode cX0_forget 10 = .ok (.return_, 1) := by decide +kernel
theorem dX0_perform_0 : decode cX0_perform 0 = .ok (.aload_n 0, 1) := by decide +kernel
theorem dX0_perform_1 : decode cX0_perform 1 = .ok (.getfield 19, 3) := by decide +kernel
theorem dX0_perform_4 : decode cX0_perform 4 = .ok (.bipush 30, 2) := by decide +kernel
theorem dX0_perform_6 : decode cX0_perform 6 = .ok (.if_icmp .ne 7, 3) := by decide +kernel
theorem dX0_perform_9 : decode cX0_perform 9 = .ok (.aload_n 0, 1) := by decide +kernel
theorem dX0_perform_10 : decode cX0_perform 10 = .ok (.invokevirtual 26, 3) := by decide +kernel
theorem dX0_perform_13 : decode cX0_perform 13 = .ok (.aload_n 0, 1) := by decide +kernel
theorem dX0_perform_14 : decode cX0_perform 14 = .ok (.getfield 9, 3) := by decide +kernel
theorem dX0_perform_17 : decode cX0_perform 17 = .ok (.aload_n 0, 1) := by decide +kernel
theorem dX0_perform_18 : decode cX0_perform 18 = .ok (.getfield 19, 3) := by decide +kernel
theorem dX0_perform_21 : decode cX0_perform 21 = .ok (.iload_n 1, 1) := by decide +kernel
theorem dX0_perform_22 : decode cX0_perform 22 = .ok (.iastore, 1) := by decide +kernel
theorem dX0_perform_23 : decode cX0_perform 23 = .ok (.aload_n 0, 1) := by decide +kernel
theorem dX0_perform_24 : decode cX0_perform 24 = .ok (.getfield 13, 3) := by decide +kernel
theorem dX0_perform_27 : decode cX0_perform 27 = .ok (.aload_n 0, 1) := by decide +kernel
theorem dX0_perform_28 : decode cX0_perform 28 = .ok (.getfield 19, 3) := by decide +kernel
theorem dX0_perform_31 : decode cX0_perform 31 = .ok (.iload_n 2, 1) := by decide +kernel
theorem dX0_perform_32 : decode cX0_perform 32 = .ok (.iastore, 1) := by decide +kernel
theorem dX0_perform_33 : decode cX0_perform 33 = .ok (.aload_n 0, 1) := by decide +kernel
theorem dX0_perform_34 : decode cX0_perform 34 = .ok (.getfield 16, 3) := by decide +kernel
theorem dX0_perform_37 : decode cX0_perform 37 = .ok (.aload_n 0, 1) := by decide +kernel
theorem dX0_perform_38 : decode cX0_perform 38 = .ok (.getfield 19, 3) := by decide +kernel
theorem dX0_perform_41 : decode cX0_perform 41 = .ok (.aload_n 3, 1) := by decide +kernel
theorem dX0_perform_42 : decode cX0_perform 42 = .ok (.getfield 29, 3) := by decide +kernel
theorem dX0_perform_45 : decode cX0_perform 45 = .ok (.iastore, 1) := by decide +kernel
theorem dX0_perform_46 : decode cX0_perform 46 = .ok (.aload_n 0, 1) := by decide +kernel
theorem dX0_perform_47 : decode cX0_perform 47 = .ok (.iconst 1, 1) := by decide +kernel
theorem dX0_perform_48 : decode cX0_perform 48 = .ok (.putfield 23, 3) := by decide +kernel
theorem dX0_perform_51 : decode cX0_perform 51 = .ok (.aload_n 0, 1) := by decide +kernel
theorem dX0_perform_52 : decode cX0_perform 52 = .ok (.aload_n 3, 1) := by decide +kernel
theorem dX0_perform_53 : decode cX0_perform 53 = .ok (.aload 4, 2) := by decide +kernel
theorem dX0_perform_55 : decode cX0_perform 55 = .ok (.invokevirtual 34, 3) := by decide +kernel
theorem dX0_perform_58 : decode cX0_perform 58 = .ok (.pop, 1) := by decide +kernel
theorem dX0_perform_59 : decode cX0_perform 59 = .ok (.aload_n 0, 1) := by decide +kernel
theorem dX0_perform_60 : decode cX0_perform 60 = .ok (.iconst 0, 1) := by decide +kernel
theorem dX0_perform_61 : decode cX0_perform 61 = .ok (.putfield 23, 3) := by decide +kernel
theorem dX0_perform_64 : decode cX0_perform 64 = .ok (.return_, 1) := by decide +kernel
theorem dX0_repeat_0 : decode cX0_repeat 0 = .ok (.aload_n 0, 1) := by decide +kernel
theorem dX0_repeat_1 : decode cX0_repeat 1 = .ok (.getfield 23, 3) := by decide +kernel
theorem dX0_repeat_4 : decode cX0_repeat 4 = .ok (.ifCond .le 12, 3) := by decide +kernel
theorem dX0_repeat_7 : decode cX0_repeat 7 = .ok (.aload_n 0, 1) := by decide +kernel
theorem dX0_repeat_8 : decode cX0_repeat 8 = .ok (.getfield 19, 3) := by decide +kernel
theorem dX0_repeat_11 : decode cX0_repeat 11 = .ok (.bipush 30, 2) := by decide +kernel
theorem dX0_repeat_13 : decode cX0_repeat 13 = .ok (.if_icmp .lt 5, 3) := by decide +kernel
theorem dX0_repeat_16 : decode cX0_repeat 16 = .ok (.iconst 0, 1) := by decide +kernel
theorem dX0_repeat_17 : decode cX0_repeat 17 = .ok (.ireturn, 1) := by decide +kernel
theorem dX0_repeat_18 : decode cX0_repeat 18 = .ok (.iconst 1, 1) := by decide +kernel
theorem dX0_repeat_19 : decode cX0_repeat 19 = .ok (.aload_n 0, 1) := by decide +kernel
theorem dX0_repeat_20 : decode cX0_repeat 20 = .ok (.getfield 13, 3) := by decide +kernel
theorem dX0_repeat_23 : decode cX0_repeat 23 = .ok (.aload_n 0, 1) := by decide +kernel
theorem dX0_repeat_24 : decode cX0_repeat 24 = .ok (.getfield 19, 3) := by decide +kernel
theorem dX0_repeat_27 : decode cX0_repeat 27 = .ok (.iaload, 1) := by decide +kernel
theorem dX0_repeat_28 : decode cX0_repeat 28 = .ok (.ishl, 1) := by decide +kernel
theorem dX0_repeat_29 : decode cX0_repeat 29 = .ok (.istore_n 3, 1) := by decide +kernel
theorem dX0_repeat_30 : decode cX0_repeat 30 = .ok (.aload_n 0, 1) := by decide +kernel
theorem dX0_repeat_31 : decode cX0_repeat 31 = .ok (.getfield 9, 3) := by decide +kernel
theorem dX0_repeat_34 : decode cX0_repeat 34 = .ok (.aload_n 0, 1) := by decide +kernel
theorem dX0_repeat_35 : decode cX0_repeat 35 = .ok (.getfield 19, 3) := by decide +kernel
theorem dX0_repeat_38 : decode cX0_repeat 38 = .ok (.iaload, 1) := by decide +kernel
theorem dX0_repeat_39 : decode cX0_repeat 39 = .ok (.ifCond .ne 16, 3) := by decide +kernel
theorem dX0_repeat_42 : decode cX0_repeat 42 = .ok (.aload_n 1, 1) := by decide +kernel
theorem dX0_repeat_43 : decode cX0_repeat 43 = .ok (.dup, 1) := by decide +kernel
theorem dX0_repeat_44 : decode cX0_repeat 44 = .ok (.getfield 38, 3) := by decide +kernel
theorem dX0_repeat_47 : decode cX0_repeat 47 = .ok (.iload_n 3, 1) := by decide +kernel
theorem dX0_repeat_48 : decode cX0_repeat 48 = .ok (.ixor, 1) := by decide +kernel
theorem dX0_repeat_49 : decode cX0_repeat 49 = .ok (.putfield 38, 3) := by decide +kernel
theorem dX0_repeat_52 : decode cX0_repeat 52 = .ok (.goto 51, 3) := by decide +kernel
theorem dX0_repeat_55 : decode cX0_repeat 55 = .ok (.aload_n 0, 1) := by decide +kernel
theorem dX0_repeat_56 : decode cX0_repeat 56 = .ok (.getfield 9, 3) := by decide +kernel
theorem dX0_repeat_59 : decode cX0_repeat 59 = .ok (.aload_n 0, 1) := by decide +kernel
theorem dX0_repeat_60 : decode cX0_repeat 60 = .ok (.getfield 19, 3) := by decide +kernel
theorem dX0_repeat_63 : decode cX0_repeat 63 = .ok (.iaload, 1) := by decide +kernel
theorem dX0_repeat_64 : decode cX0_repeat 64 = .ok (.iconst 1, 1) := by decide +kernel
theorem dX0_repeat_65 : decode cX0_repeat 65 = .ok (.if_icmp .ne 16, 3) := by decide +kernel
theorem dX0_repeat_68 : decode cX0_repeat 68 = .ok (.aload_n 1, 1) := by decide +kernel
theorem dX0_repeat_69 : decode cX0_repeat 69 = .ok (.dup, 1) := by decide +kernel
theorem dX0_repeat_70 : decode cX0_repeat 70 = .ok (.getfield 29, 3) := by decide +kernel
theorem dX0_repeat_73 : decode cX0_repeat 73 = .ok (.iload_n 3, 1) := by decide +kernel
theorem dX0_repeat_74 : decode cX0_repeat 74 = .ok (.ixor, 1) := by decide +kernel
theorem dX0_repeat_75 : decode cX0_repeat 75 = .ok (.putfield 29, 3) := by decide +kernel
theorem dX0_repeat_78 : decode cX0_repeat 78 = .ok (.goto 25, 3) := by decide +kernel
theorem dX0_repeat_81 : decode cX0_repeat 81 = .ok (.aload_n 1, 1) := by decide +kernel
theorem dX0_repeat_82 : decode cX0_repeat 82 = .ok (.dup, 1) := by decide +kernel
theorem dX0_repeat_83 : decode cX0_repeat 83 = .ok (.getfield 29, 3) := by decide +kernel
theorem dX0_repeat_86 : decode cX0_repeat 86 = .ok (.iload_n 3, 1) := by decide +kernel
theorem dX0_repeat_87 : decode cX0_repeat 87 = .ok (.iconst (-1), 1) := by decide +kernel
theorem dX0_repeat_88 : decode cX0_repeat 88 = .ok (.ixor, 1) := by decide +kernel
theorem dX0_repeat_89 : decode cX0_repeat 89 = .ok (.iand, 1) := by decide +kernel
theorem dX0_repeat_90 : decode cX0_repeat 90 = .ok (.putfield 29, 3) := by decide +kernel
theorem dX0_repeat_93 : decode cX0_repeat 93 = .ok (.aload_n 2, 1) := by decide +kernel
theorem dX0_repeat_94 : decode cX0_repeat 94 = .ok (.dup, 1) := by decide +kernel
theorem dX0_repeat_95 : decode cX0_repeat 95 = .ok (.getfield 41, 3) := by decide +kernel
theorem dX0_repeat_98 : decode cX0_repeat 98 = .ok (.iload_n 3, 1) := by decide +kernel
theorem dX0_repeat_99 : decode cX0_repeat 99 = .ok (.ior, 1) := by decide +kernel
theorem dX0_repeat_100 : decode cX0_repeat 100 = .ok (.putfield 41, 3) := by decide +kernel
theorem dX0_repeat_103 : decode cX0_repeat 103 = .ok (.aload_n 0, 1) := by decide +kernel
theorem dX0_repeat_104 : decode cX0_repeat 104 = .ok (.dup, 1) := by decide +kernel
theorem dX0_repeat_105 : decode cX0_repeat 105 = .ok (.getfield 19, 3) := by decide +kernel
theorem dX0_repeat_108 : decode cX0_repeat 108 = .ok (.iconst 1, 1) := by decide +kernel
theorem dX0_repeat_109 : decode cX0_repeat 109 = .ok (.iadd, 1) := by decide +kernel
theorem dX0_repeat_110 : decode cX0_repeat 110 = .ok (.putfield 19, 3) := by decide +kernel
theorem dX0_repeat_113 : decode cX0_repeat 113 = .ok (.aload_n 0, 1) := by decide +kernel
theorem dX0_repeat_114 : decode cX0_repeat 114 = .ok (.dup, 1) := by decide +kernel
theorem dX0_repeat_115 : decode cX0_repeat 115 = .ok (.getfield 23, 3) := by decide +kernel
theorem dX0_repeat_118 : decode cX0_repeat 118 = .ok (.iconst 1, 1) := by decide +kernel
theorem dX0_repeat_119 : decode cX0_repeat 119 = .ok (.isub, 1) := by decide +kernel
theorem dX0_repeat_120 : decode cX0_repeat 120 = .ok (.putfield 23, 3) := by decide +kernel
theorem dX0_repeat_123 : decode cX0_repeat 123 = .ok (.iconst 1, 1) := by decide +kernel
theorem dX0_repeat_124 : decode cX0_repeat 124 = .ok (.ireturn, 1) := by decide +kernel
theorem dX0_takeBack_0 : decode cX0_takeBack 0 = .ok (.aload_n 0, 1) := by decide +kernel
theorem dX0_takeBack_1 : decode cX0_takeBack 1 = .ok (.getfield 19, 3) := by decide +kernel
theorem dX0_takeBack_4 : decode cX0_takeBack 4 = .ok (.ifCond .gt 5, 3) := by decide +kernel
theorem dX0_takeBack_7 : decode cX0_takeBack 7 = .ok (.iconst 0, 1) := by decide +kernel
theorem dX0_takeBack_8 : decode cX0_takeBack 8 = .ok (.ireturn, 1) := by decide +kernel
theorem dX0_takeBack_9 : decode cX0_takeBack 9 = .ok (.aload_n 0, 1) := by decide +kernel
theorem dX0_takeBack_10 : decode cX0_takeBack 10 = .ok (.dup, 1) := by decide +kernel
theorem dX0_takeBack_11 : decode cX0_takeBack 11 = .ok (.getfield 19, 3) := by decide +kernel
theorem dX0_takeBack_14 : decode cX0_takeBack 14 = .ok (.iconst 1, 1) := by decide +kernel
theorem dX0_takeBack_15 : decode cX0_takeBack 15 = .ok (.isub, 1) := by decide +kernel
theorem dX0_takeBack_16 : decode cX0_takeBack 16 = .ok (.putfield 19, 3) := by decide +kernel
theorem dX0_takeBack_19 : decode cX0_takeBack 19 = .ok (.aload_n 0, 1) := by decide +kernel
theorem dX0_takeBack_20 : decode cX0_takeBack 20 = .ok (.dup, 1) := by decide +kernel
theorem dX0_takeBack_21 : decode cX0_takeBack 21 = .ok (.getfield 23, 3) := by decide +kernel
theorem dX0_takeBack_24 : decode cX0_takeBack 24 = .ok (.iconst 1, 1) := by decide +kernel
theorem dX0_takeBack_25 : decode cX0_takeBack 25 = .ok (.iadd, 1) := by decide +kernel
theorem dX0_takeBack_26 : decode cX0_takeBack 26 = .ok (.putfield 23, 3) := by decide +kernel
theorem dX0_takeBack_29 : decode cX0_takeBack 29 = .ok (.aload_n 0, 1) := by decide +kernel
theorem dX0_takeBack_30 : decode cX0_takeBack 30 = .ok (.getfield 9, 3) := by decide +kernel
theorem dX0_takeBack_33 : decode cX0_takeBack 33 = .ok (.aload_n 0, 1) := by decide +kernel
theorem dX0_takeBack_34 : decode cX0_takeBack 34 = .ok (.getfield 19, 3) := by decide +kernel
theorem dX0_takeBack_37 : decode cX0_takeBack 37 = .ok (.iaload, 1) := by decide +kernel
theorem dX0_takeBack_38 : decode cX0_takeBack 38 = .ok (.ifCond .ne 25, 3) := by decide +kernel
theorem dX0_takeBack_41 : decode cX0_takeBack 41 = .ok (.aload_n 1, 1) := by decide +kernel
theorem dX0_takeBack_42 : decode cX0_takeBack 42 = .ok (.dup, 1) := by decide +kernel
theorem dX0_takeBack_43 : decode cX0_takeBack 43 = .ok (.getfield 38, 3) := by decide +kernel
theorem dX0_takeBack_46 : decode cX0_takeBack 46 = .ok (.iconst 1, 1) := by decide +kernel
theorem dX0_takeBack_47 : decode cX0_takeBack 47 = .ok (.aload_n 0, 1) := by decide +kernel
theorem dX0_takeBack_48 : decode cX0_takeBack 48 = .ok (.getfield 13, 3) := by decide +kernel
theorem dX0_takeBack_51 : decode cX0_takeBack 51 = .ok (.aload_n 0, 1) := by decide +kernel
theorem dX0_takeBack_52 : decode cX0_takeBack 52 = .ok (.getfield 19, 3) := by decide +kernel
theorem dX0_takeBack_55 : decode cX0_takeBack 55 = .ok (.iaload, 1) := by decide +kernel
theorem dX0_takeBack_56 : decode cX0_takeBack 56 = .ok (.ishl, 1) := by decide +kernel
theorem dX0_takeBack_57 : decode cX0_takeBack 57 = .ok (.ixor, 1) := by decide +kernel
theorem dX0_takeBack_58 : decode cX0_takeBack 58 = .ok (.putfield 38, 3) := by decide +kernel
theorem dX0_takeBack_61 : decode cX0_takeBack 61 = .ok (.iconst 1, 1) := by decide +kernel
theorem dX0_takeBack_62 : decode cX0_takeBack 62 = .ok (.ireturn, 1) := by decide +kernel
theorem dX0_takeBack_63 : decode cX0_takeBack 63 = .ok (.aload_n 1, 1) := by decide +kernel
theorem dX0_takeBack_64 : decode cX0_takeBack 64 = .ok (.aload_n 0, 1) := by decide +kernel
theorem dX0_takeBack_65 : decode cX0_takeBack 65 = .ok (.getfield 16, 3) := by decide +kernel
theorem dX0_takeBack_68 : decode cX0_takeBack 68 = .ok (.aload_n 0, 1) := by decide +kernel
theorem dX0_takeBack_69 : decode cX0_takeBack 69 = .ok (.getfield 19, 3) := by decide +kernel
theorem dX0_takeBack_72 : decode cX0_takeBack 72 = .ok (.iaload, 1) := by decide +kernel
theorem dX0_takeBack_73 : decode cX0_takeBack 73 = .ok (.putfield 29, 3) := by decide +kernel
theorem dX0_takeBack_76 : decode cX0_takeBack 76 = .ok (.aload_n 0, 1) := by decide +kernel
theorem dX0_takeBack_77 : decode cX0_takeBack 77 = .ok (.getfield 9, 3) := by decide +kernel
theorem dX0_takeBack_80 : decode cX0_takeBack 80 = .ok (.aload_n 0, 1) := by decide +kernel
theorem dX0_takeBack_81 : decode cX0_takeBack 81 = .ok (.getfield 19, 3) := by decide +kernel
theorem dX0_takeBack_84 : decode cX0_takeBack 84 = .ok (.iaload, 1) := by decide +kernel
theorem dX0_takeBack_85 : decode cX0_takeBack 85 = .ok (.iconst 2, 1) := by decide +kernel
theorem dX0_takeBack_86 : decode cX0_takeBack 86 = .ok (.if_icmp .ne 25, 3) := by decide +kernel
theorem dX0_takeBack_89 : decode cX0_takeBack 89 = .ok (.aload_n 2, 1) := by decide +kernel
theorem dX0_takeBack_90 : decode cX0_takeBack 90 = .ok (.dup, 1) := by decide +kernel
theorem dX0_takeBack_91 : decode cX0_takeBack 91 = .ok (.getfield 41, 3) := by decide +kernel
theorem dX0_takeBack_94 : decode cX0_takeBack 94 = .ok (.iconst 1, 1) := by decide +kernel
theorem dX0_takeBack_95 : decode cX0_takeBack 95 = .ok (.aload_n 0, 1) := by decide +kernel
theorem dX0_takeBack_96 : decode cX0_takeBack 96 = .ok (.getfield 13, 3) := by decide +kernel
theorem dX0_takeBack_99 : decode cX0_takeBack 99 = .ok (.aload_n 0, 1) := by decide +kernel
theorem dX0_takeBack_100 : decode cX0_takeBack 100 = .ok (.getfield 19, 3) := by decide +kernel
theorem dX0_takeBack_103 : decode cX0_takeBack 103 = .ok (.iaload, 1) := by decide +kernel
theorem dX0_takeBack_104 : decode cX0_takeBack 104 = .ok (.ishl, 1) := by decide +kernel
theorem dX0_takeBack_105 : decode cX0_takeBack 105 = .ok (.iconst (-1), 1) := by decide +kernel
theorem dX0_takeBack_106 : decode cX0_takeBack 106 = .ok (.ixor, 1) := by decide +kernel
theorem dX0_takeBack_107 : decode cX0_takeBack 107 = .ok (.iand, 1) := by decide +kernel
theorem dX0_takeBack_108 : decode cX0_takeBack 108 = .ok (.putfield 41, 3) := by decide +kernel
theorem dX0_takeBack_111 : decode cX0_takeBack 111 = .ok (.iconst 1, 1) := by decide +kernel
theorem dX0_takeBack_112 : decode cX0_takeBack 112 = .ok (.ireturn, 1) := by decide +kernel
theorem dX0_dropFirst_0 : decode cX0_dropFirst 0 = .ok (.aload_n 0, 1) := by decide +kernel
theorem dX0_dropFirst_1 : decode cX0_dropFirst 1 = .ok (.getfield 9, 3) := by decide +kernel
theorem dX0_dropFirst_4 : decode cX0_dropFirst 4 = .ok (.iconst 1, 1) := by decide +kernel
theorem dX0_dropFirst_5 : decode cX0_dropFirst 5 = .ok (.aload_n 0, 1) := by decide +kernel
theorem dX0_dropFirst_6 : decode cX0_dropFirst 6 = .ok (.getfield 9, 3) := by decide +kernel
theorem dX0_dropFirst_9 : decode cX0_dropFirst 9 = .ok (.iconst 0, 1) := by decide +kernel
theorem dX0_dropFirst_10 : decode cX0_dropFirst 10 = .ok (.bipush 29, 2) := by decide +kernel
theorem dX0_dropFirst_12 : decode cX0_dropFirst 12 = .ok (.invokestatic 46, 3) := by decide +kernel
theorem dX0_dropFirst_15 : decode cX0_dropFirst 15 = .ok (.aload_n 0, 1) := by decide +kernel
theorem dX0_dropFirst_16 : decode cX0_dropFirst 16 = .ok (.getfield 13, 3) := by decide +kernel
theorem dX0_dropFirst_19 : decode cX0_dropFirst 19 = .ok (.iconst 1, 1) := by decide +kernel
theorem dX0_dropFirst_20 : decode cX0_dropFirst 20 = .ok (.aload_n 0, 1) := by decide +kernel
theorem dX0_dropFirst_21 : decode cX0_dropFirst 21 = .ok (.getfield 13, 3) := by decide +kernel
theorem dX0_dropFirst_24 : decode cX0_dropFirst 24 = .ok (.iconst 0, 1) := by decide +kernel
theorem dX0_dropFirst_25 : decode cX0_dropFirst 25 = .ok (.bipush 29, 2) := by decide +kernel
theorem dX0_dropFirst_27 : decode cX0_dropFirst 27 = .ok (.invokestatic 46, 3) := by decide +kernel
theorem dX0_dropFirst_30 : decode cX0_dropFirst 30 = .ok (.aload_n 0, 1) := by decide +kernel
theorem dX0_dropFirst_31 : decode cX0_dropFirst 31 = .ok (.getfield 16, 3) := by decide +kernel
theorem dX0_dropFirst_34 : decode cX0_dropFirst 34 = .ok (.iconst 1, 1) := by decide +kernel
theorem dX0_dropFirst_35 : decode cX0_dropFirst 35 = .ok (.aload_n 0, 1) := by decide +kernel
theorem dX0_dropFirst_36 : decode cX0_dropFirst 36 = .ok (.getfield 16, 3) := by decide +kernel
theorem dX0_dropFirst_39 : decode cX0_dropFirst 39 = .ok (.iconst 0, 1) := by decide +kernel
theorem dX0_dropFirst_40 : decode cX0_dropFirst 40 = .ok (.bipush 29, 2) := by decide +kernel
theorem dX0_dropFirst_42 : decode cX0_dropFirst 42 = .ok (.invokestatic 46, 3) := by decide +kernel
theorem dX0_dropFirst_45 : decode cX0_dropFirst 45 = .ok (.aload_n 0, 1) := by decide +kernel
theorem dX0_dropFirst_46 : decode cX0_dropFirst 46 = .ok (.bipush 29, 2) := by decide +kernel
theorem dX0_dropFirst_48 : decode cX0_dropFirst 48 = .ok (.putfield 19, 3) := by decide +kernel
theorem dX0_dropFirst_51 : decode cX0_dropFirst 51 = .ok (.return_, 1) := by decide +kernel
theorem dX1_init_0 : decode cX1_init 0 = .ok (.aload_n 0, 1) := by decide +kernel
theorem dX1_init_1 : decode cX1_init 1 = .ok (.invokespecial 3, 3) := by decide +kernel
theorem dX1_init_4 : decode cX1_init 4 = .ok (.aload_n 0, 1) := by decide +kernel
theorem dX1_init_5 : decode cX1_init 5 = .ok (.iconst 4, 1) := by decide +kernel
theorem dX1_init_6 : decode cX1_init 6 = .ok (.newarray .int, 2) := by decide +kernel
theorem dX1_init_8 : decode cX1_init 8 = .ok (.putfield 11, 3) := by decide +kernel
theorem dX1_init_11 : decode cX1_init 11 = .ok (.aload_n 0, 1) := by decide +kernel
theorem dX1_init_12 : decode cX1_init 12 = .ok (.iconst 4, 1) := by decide +kernel
theorem dX1_init_13 : decode cX1_init 13 = .ok (.newarray .int, 2) := by decide +kernel
theorem dX1_init_15 : decode cX1_init 15 = .ok (.putfield 15, 3) := by decide +kernel
theorem dX1_init_18 : decode cX1_init 18 = .ok (.aload_n 0, 1) := by decide +kernel
theorem dX1_init_19 : decode cX1_init 19 = .ok (.iconst 4, 1) := by decide +kernel
theorem dX1_init_20 : decode cX1_init 20 = .ok (.newarray .int, 2) := by decide +kernel
theorem dX1_init_22 : decode cX1_init 22 = .ok (.putfield 18, 3) := by decide +kernel
theorem dX1_init_25 : decode cX1_init 25 = .ok (.aload_n 0, 1) := by decide +kernel
theorem dX1_init_26 : decode cX1_init 26 = .ok (.iconst 4, 1) := by decide +kernel
theorem dX1_init_27 : decode cX1_init 27 = .ok (.newarray .int, 2) := by decide +kernel
theorem dX1_init_29 : decode cX1_init 29 = .ok (.putfield 21, 3) := by decide +kernel
theorem dX1_init_32 : decode cX1_init 32 = .ok (.aload_n 0, 1) := by decide +kernel
theorem dX1_init_33 : decode cX1_init 33 = .ok (.getfield 15, 3) := by decide +kernel
theorem dX1_init_36 : decode cX1_init 36 = .ok (.iconst 1, 1) := by decide +kernel
theorem dX1_init_37 : decode cX1_init 37 = .ok (.invokestatic 24, 3) := by decide +kernel
theorem dX1_init_40 : decode cX1_init 40 = .ok (.return_, 1) := by decide +kernel
theorem dX1_tell_0 : decode cX1_tell 0 = .ok (.aload_n 0, 1) := by decide +kernel
theorem dX1_tell_1 : decode cX1_tell 1 = .ok (.getfield 11, 3) := by decide +kernel
theorem dX1_tell_4 : decode cX1_tell 4 = .ok (.iload_n 1, 1) := by decide +kernel
theorem dX1_tell_5 : decode cX1_tell 5 = .ok (.iload_n 2, 1) := by decide +kernel
theorem dX1_tell_6 : decode cX1_tell 6 = .ok (.iastore, 1) := by decide +kernel
theorem dX1_tell_7 : decode cX1_tell 7 = .ok (.aload_n 0, 1) := by decide +kernel
theorem dX1_tell_8 : decode cX1_tell 8 = .ok (.getfield 15, 3) := by decide +kernel
theorem dX1_tell_11 : decode cX1_tell 11 = .ok (.iload_n 1, 1) := by decide +kernel
theorem dX1_tell_12 : decode cX1_tell 12 = .ok (.iload_n 3, 1) := by decide +kernel
theorem dX1_tell_13 : decode cX1_tell 13 = .ok (.iastore, 1) := by decide +kernel
theorem dX1_tell_14 : decode cX1_tell 14 = .ok (.aload_n 0, 1) := by decide +kernel
theorem dX1_tell_15 : decode cX1_tell 15 = .ok (.getfield 18, 3) := by decide +kernel
theorem dX1_tell_18 : decode cX1_tell 18 = .ok (.iload_n 1, 1) := by decide +kernel
theorem dX1_tell_19 : decode cX1_tell 19 = .ok (.iload 4, 2) := by decide +kernel
theorem dX1_tell_21 : decode cX1_tell 21 = .ok (.iastore, 1) := by decide +kernel
theorem dX1_tell_22 : decode cX1_tell 22 = .ok (.aload_n 0, 1) := by decide +kernel
theorem dX1_tell_23 : decode cX1_tell 23 = .ok (.getfield 21, 3) := by decide +kernel
theorem dX1_tell_26 : decode cX1_tell 26 = .ok (.iload_n 1, 1) := by decide +kernel
theorem dX1_tell_27 : decode cX1_tell 27 = .ok (.iload 5, 2) := by decide +kernel
theorem dX1_tell_29 : decode cX1_tell 29 = .ok (.iastore, 1) := by decide +kernel
theorem dX1_tell_30 : decode cX1_tell 30 = .ok (.return_, 1) := by decide +kernel
theorem dX1_degree_0 : decode cX1_degree 0 = .ok (.sipush 300, 3) := by decide +kernel
theorem dX1_degree_3 : decode cX1_degree 3 = .ok (.istore_n 2, 1) := by decide +kernel
theorem dX1_degree_4 : decode cX1_degree 4 = .ok (.iconst 0, 1) := by decide +kernel
theorem dX1_degree_5 : decode cX1_degree 5 = .ok (.istore_n 3, 1) := by decide +kernel
theorem dX1_degree_6 : decode cX1_degree 6 = .ok (.iload_n 3, 1) := by decide +kernel
theorem dX1_degree_7 : decode cX1_degree 7 = .ok (.iload_n 1, 1) := by decide +kernel
theorem dX1_degree_8 : decode cX1_degree 8 = .ok (.if_icmp .gt 22, 3) := by decide +kernel
theorem dX1_degree_11 : decode cX1_degree 11 = .ok (.iload_n 2, 1) := by decide +kernel
theorem dX1_degree_12 : decode cX1_degree 12 = .ok (.bipush (-9), 2) := by decide +kernel
theorem dX1_degree_14 : decode cX1_degree 14 = .ok (.if_icmp .eq 16, 3) := by decide +kernel
theorem dX1_degree_17 : decode cX1_degree 17 = .ok (.aload_n 0, 1) := by decide +kernel
theorem dX1_degree_18 : decode cX1_degree 18 = .ok (.iload_n 3, 1) := by decide +kernel
theorem dX1_degree_19 : decode cX1_degree 19 = .ok (.iload_n 2, 1) := by decide +kernel
theorem dX1_degree_20 : decode cX1_degree 20 = .ok (.invokevirtual 30, 3) := by decide +kernel
theorem dX1_degree_23 : decode cX1_degree 23 = .ok (.istore_n 2, 1) := by decide +kernel
theorem dX1_degree_24 : decode cX1_degree 24 = .ok (.iinc 3 1, 3) := by decide +kernel
theorem dX1_degree_27 : decode cX1_degree 27 = .ok (.goto (-21), 3) := by decide +kernel
theorem dX1_degree_30 : decode cX1_degree 30 = .ok (.iload_n 2, 1) := by decide +kernel
theorem dX1_degree_31 : decode cX1_degree 31 = .ok (.ireturn, 1) := by decide +kernel
theorem dX1_bearable_0 : decode cX1_bearable 0 = .ok (.iload_n 1, 1) := by decide +kernel
theorem dX1_bearable_1 : decode cX1_bearable 1 = .ok (.ifCond .ne 9, 3) := by decide +kernel
theorem dX1_bearable_4 : decode cX1_bearable 4 = .ok (.sipush 300, 3) := by decide +kernel
theorem dX1_bearable_7 : decode cX1_bearable 7 = .ok (.goto 10, 3) := by decide +kernel
theorem dX1_bearable_10 : decode cX1_bearable 10 = .ok (.aload_n 0, 1) := by decide +kernel
theorem dX1_bearable_11 : decode cX1_bearable 11 = .ok (.iload_n 1, 1) := by decide +kernel
theorem dX1_bearable_12 : decode cX1_bearable 12 = .ok (.iconst 1, 1) := by decide +kernel
theorem dX1_bearable_13 : decode cX1_bearable 13 = .ok (.isub, 1) := by decide +kernel
theorem dX1_bearable_14 : decode cX1_bearable 14 = .ok (.invokevirtual 34, 3) := by decide +kernel
theorem dX1_bearable_17 : decode cX1_bearable 17 = .ok (.istore_n 3, 1) := by decide +kernel
theorem dX1_bearable_18 : decode cX1_bearable 18 = .ok (.iload_n 3, 1) := by decide +kernel
theorem dX1_bearable_19 : decode cX1_bearable 19 = .ok (.bipush (-9), 2) := by decide +kernel
theorem dX1_bearable_21 : decode cX1_bearable 21 = .ok (.if_icmp .eq 13, 3) := by decide +kernel
theorem dX1_bearable_24 : decode cX1_bearable 24 = .ok (.iload_n 2, 1) := by decide +kernel
theorem dX1_bearable_25 : decode cX1_bearable 25 = .ok (.aload_n 0, 1) := by decide +kernel
theorem dX1_bearable_26 : decode cX1_bearable 26 = .ok (.getfield 11, 3) := by decide +kernel
theorem dX1_bearable_29 : decode cX1_bearable 29 = .ok (.iload_n 1, 1) := by decide +kernel
theorem dX1_bearable_30 : decode cX1_bearable 30 = .ok (.iaload, 1) := by decide +kernel
theorem dX1_bearable_31 : decode cX1_bearable 31 = .ok (.if_icmp .ge 6, 3) := by decide +kernel
theorem dX1_bearable_34 : decode cX1_bearable 34 = .ok (.bipush (-9), 2) := by decide +kernel
theorem dX1_bearable_36 : decode cX1_bearable 36 = .ok (.ireturn, 1) := by decide +kernel
theorem dX1_bearable_37 : decode cX1_bearable 37 = .ok (.aload_n 0, 1) := by decide +kernel
theorem dX1_bearable_38 : decode cX1_bearable 38 = .ok (.iload_n 1, 1) := by decide +kernel
theorem dX1_bearable_39 : decode cX1_bearable 39 = .ok (.iload_n 3, 1) := by decide +kernel
theorem dX1_bearable_40 : decode cX1_bearable 40 = .ok (.iload_n 2, 1) := by decide +kernel
theorem dX1_bearable_41 : decode cX1_bearable 41 = .ok (.invokevirtual 38, 3) := by decide +kernel
theorem dX1_bearable_44 : decode cX1_bearable 44 = .ok (.istore 4, 2) := by decide +kernel
theorem dX1_bearable_46 : decode cX1_bearable 46 = .ok (.iload 4, 2) := by decide +kernel
theorem dX1_bearable_48 : decode cX1_bearable 48 = .ok (.ifCond .ge 8, 3) := by decide +kernel
theorem dX1_bearable_51 : decode cX1_bearable 51 = .ok (.bipush (-9), 2) := by decide +kernel
theorem dX1_bearable_53 : decode cX1_bearable 53 = .ok (.goto 11, 3) := by decide +kernel
theorem dX1_bearable_56 : decode cX1_bearable 56 = .ok (.sipush 9999, 3) := by decide +kernel
theorem dX1_bearable_59 : decode cX1_bearable 59 = .ok (.iload 4, 2) := by decide +kernel
theorem dX1_bearable_61 : decode cX1_bearable 61 = .ok (.invokestatic 42, 3) := by decide +kernel
theorem dX1_bearable_64 : decode cX1_bearable 64 = .ok (.ireturn, 1) := by decide +kernel
theorem dX1_degreeUnder_0 : decode cX1_degreeUnder 0 = .ok (.aload_n 0, 1) := by decide +kernel
theorem dX1_degreeUnder_1 : decode cX1_degreeUnder 1 = .ok (.getfield 11, 3) := by decide +kernel
theorem dX1_degreeUnder_4 : decode cX1_degreeUnder 4 = .ok (.iload_n 1, 1) := by decide +kernel
theorem dX1_degreeUnder_5 : decode cX1_degreeUnder 5 = .ok (.iaload, 1) := by decide +kernel
theorem dX1_degreeUnder_6 : decode cX1_degreeUnder 6 = .ok (.istore_n 3, 1) := by decide +kernel
theorem dX1_degreeUnder_7 : decode cX1_degreeUnder 7 = .ok (.iload_n 3, 1) := by decide +kernel
theorem dX1_degreeUnder_8 : decode cX1_degreeUnder 8 = .ok (.sipush 300, 3) := by decide +kernel
theorem dX1_degreeUnder_11 : decode cX1_degreeUnder 11 = .ok (.if_icmp .gt 27, 3) := by decide +kernel
theorem dX1_degreeUnder_14 : decode cX1_degreeUnder 14 = .ok (.aload_n 0, 1) := by decide +kernel
theorem dX1_degreeUnder_15 : decode cX1_degreeUnder 15 = .ok (.iload_n 1, 1) := by decide +kernel
theorem dX1_degreeUnder_16 : decode cX1_degreeUnder 16 = .ok (.iload_n 2, 1) := by decide +kernel
theorem dX1_degreeUnder_17 : decode cX1_degreeUnder 17 = .ok (.iload_n 3, 1) := by decide +kernel
theorem dX1_degreeUnder_18 : decode cX1_degreeUnder 18 = .ok (.invokevirtual 38, 3) := by decide +kernel
theorem dX1_degreeUnder_21 : decode cX1_degreeUnder 21 = .ok (.aload_n 0, 1) := by decide +kernel
theorem dX1_degreeUnder_22 : decode cX1_degreeUnder 22 = .ok (.getfield 21, 3) := by decide +kernel
theorem dX1_degreeUnder_25 : decode cX1_degreeUnder 25 = .ok (.iload_n 1, 1) := by decide +kernel
theorem dX1_degreeUnder_26 : decode cX1_degreeUnder 26 = .ok (.iaload, 1) := by decide +kernel
theorem dX1_degreeUnder_27 : decode cX1_degreeUnder 27 = .ok (.if_icmp .lt 5, 3) := by decide +kernel
theorem dX1_degreeUnder_30 : decode cX1_degreeUnder 30 = .ok (.iload_n 3, 1) := by decide +kernel
theorem dX1_degreeUnder_31 : decode cX1_degreeUnder 31 = .ok (.ireturn, 1) := by decide +kernel
theorem dX1_degreeUnder_32 : decode cX1_degreeUnder 32 = .ok (.iinc 3 1, 3) := by decide +kernel
theorem dX1_degreeUnder_35 : decode cX1_degreeUnder 35 = .ok (.goto (-28), 3) := by decide +kernel
theorem dX1_degreeUnder_38 : decode cX1_degreeUnder 38 = .ok (.bipush (-9), 2) := by decide +kernel
theorem dX1_degreeUnder_40 : decode cX1_degreeUnder 40 = .ok (.ireturn, 1) := by decide +kernel
theorem dX1_spare_0 : decode cX1_spare 0 = .ok (.aload_n 0, 1) := by decide +kernel
theorem dX1_spare_1 : decode cX1_spare 1 = .ok (.getfield 15, 3) := by decide +kernel
theorem dX1_spare_4 : decode cX1_spare 4 = .ok (.iload_n 1, 1) := by decide +kernel
theorem dX1_spare_5 : decode cX1_spare 5 = .ok (.iaload, 1) := by decide +kernel
theorem dX1_spare_6 : decode cX1_spare 6 = .ok (.iload_n 3, 1) := by decide +kernel
theorem dX1_spare_7 : decode cX1_spare 7 = .ok (.aload_n 0, 1) := by decide +kernel
theorem dX1_spare_8 : decode cX1_spare 8 = .ok (.getfield 11, 3) := by decide +kernel
theorem dX1_spare_11 : decode cX1_spare 11 = .ok (.iload_n 1, 1) := by decide +kernel
theorem dX1_spare_12 : decode cX1_spare 12 = .ok (.iaload, 1) := by decide +kernel
theorem dX1_spare_13 : decode cX1_spare 13 = .ok (.isub, 1) := by decide +kernel
theorem dX1_spare_14 : decode cX1_spare 14 = .ok (.imul, 1) := by decide +kernel
theorem dX1_spare_15 : decode cX1_spare 15 = .ok (.aload_n 0, 1) := by decide +kernel
theorem dX1_spare_16 : decode cX1_spare 16 = .ok (.getfield 18, 3) := by decide +kernel
theorem dX1_spare_19 : decode cX1_spare 19 = .ok (.iload_n 1, 1) := by decide +kernel
theorem dX1_spare_20 : decode cX1_spare 20 = .ok (.iaload, 1) := by decide +kernel
theorem dX1_spare_21 : decode cX1_spare 21 = .ok (.iconst 0, 1) := by decide +kernel
theorem dX1_spare_22 : decode cX1_spare 22 = .ok (.iload_n 2, 1) := by decide +kernel
theorem dX1_spare_23 : decode cX1_spare 23 = .ok (.iload_n 3, 1) := by decide +kernel
theorem dX1_spare_24 : decode cX1_spare 24 = .ok (.isub, 1) := by decide +kernel
theorem dX1_spare_25 : decode cX1_spare 25 = .ok (.invokestatic 47, 3) := by decide +kernel
theorem dX1_spare_28 : decode cX1_spare 28 = .ok (.imul, 1) := by decide +kernel
theorem dX1_spare_29 : decode cX1_spare 29 = .ok (.isub, 1) := by decide +kernel
theorem dX1_spare_30 : decode cX1_spare 30 = .ok (.ireturn, 1) := by decide +kernel
theorem dX2_init_0 : decode cX2_init 0 = .ok (.aload_n 0, 1) := by decide +kernel
theorem dX2_init_1 : decode cX2_init 1 = .ok (.invokespecial 3, 3) := by decide +kernel
theorem dX2_init_4 : decode cX2_init 4 = .ok (.aload_n 0, 1) := by decide +kernel
theorem dX2_init_5 : decode cX2_init 5 = .ok (.bipush 25, 2) := by decide +kernel
theorem dX2_init_7 : decode cX2_init 7 = .ok (.newarray .boolean, 2) := by decide +kernel
theorem dX2_init_9 : decode cX2_init 9 = .ok (.putfield 9, 3) := by decide +kernel
theorem dX2_init_12 : decode cX2_init 12 = .ok (.aload_n 0, 1) := by decide +kernel
theorem dX2_init_13 : decode cX2_init 13 = .ok (.bipush 25, 2) := by decide +kernel
theorem dX2_init_15 : decode cX2_init 15 = .ok (.newarray .int, 2) := by decide +kernel
theorem dX2_init_17 : decode cX2_init 17 = .ok (.putfield 13, 3) := by decide +kernel
theorem dX2_init_20 : decode cX2_init 20 = .ok (.aload_n 0, 1) := by decide +kernel
theorem dX2_init_21 : decode cX2_init 21 = .ok (.bipush 25, 2) := by decide +kernel
theorem dX2_init_23 : decode cX2_init 23 = .ok (.newarray .int, 2) := by decide +kernel
theorem dX2_init_25 : decode cX2_init 25 = .ok (.putfield 17, 3) := by decide +kernel
theorem dX2_init_28 : decode cX2_init 28 = .ok (.return_, 1) := by decide +kernel
theorem dX2_draw_0 : decode cX2_draw 0 = .ok (.iload_n 2, 1) := by decide +kernel
theorem dX2_draw_1 : decode cX2_draw 1 = .ok (.iconst 5, 1) := by decide +kernel
theorem dX2_draw_2 : decode cX2_draw 2 = .ok (.imul, 1) := by decide +kernel
theorem dX2_draw_3 : decode cX2_draw 3 = .ok (.iload_n 1, 1) := by decide +kernel
theorem dX2_draw_4 : decode cX2_draw 4 = .ok (.iadd, 1) := by decide +kernel
theorem dX2_draw_5 : decode cX2_draw 5 = .ok (.istore 4, 2) := by decide +kernel
theorem dX2_draw_7 : decode cX2_draw 7 = .ok (.aload_n 0, 1) := by decide +kernel
theorem dX2_draw_8 : decode cX2_draw 8 = .ok (.getfield 9, 3) := by decide +kernel
theorem dX2_draw_11 : decode cX2_draw 11 = .ok (.iload 4, 2) := by decide +kernel
theorem dX2_draw_13 : decode cX2_draw 13 = .ok (.baload, 1) := by decide +kernel
theorem dX2_draw_14 : decode cX2_draw 14 = .ok (.iload_n 3, 1) := by decide +kernel
theorem dX2_draw_15 : decode cX2_draw 15 = .ok (.if_icmp .eq 7, 3) := by decide +kernel
theorem dX2_draw_18 : decode cX2_draw 18 = .ok (.iconst 1, 1) := by decide +kernel
theorem dX2_draw_19 : decode cX2_draw 19 = .ok (.goto 4, 3) := by decide +kernel
theorem dX2_draw_22 : decode cX2_draw 22 = .ok (.iconst 0, 1) := by decide +kernel
theorem dX2_draw_23 : decode cX2_draw 23 = .ok (.istore 5, 2) := by decide +kernel
theorem dX2_draw_25 : decode cX2_draw 25 = .ok (.aload_n 0, 1) := by decide +kernel
theorem dX2_draw_26 : decode cX2_draw 26 = .ok (.getfield 9, 3) := by decide +kernel
theorem dX2_draw_29 : decode cX2_draw 29 = .ok (.iload 4, 2) := by decide +kernel
theorem dX2_draw_31 : decode cX2_draw 31 = .ok (.iload_n 3, 1) := by decide +kernel
theorem dX2_draw_32 : decode cX2_draw 32 = .ok (.bastore, 1) := by decide +kernel
theorem dX2_draw_33 : decode cX2_draw 33 = .ok (.iload 5, 2) := by decide +kernel
theorem dX2_draw_35 : decode cX2_draw 35 = .ok (.ireturn, 1) := by decide +kernel
theorem dX2_ways_0 : decode cX2_ways 0 = .ok (.aload_n 0, 1) := by decide +kernel
theorem dX2_ways_1 : decode cX2_ways 1 = .ok (.getfield 9, 3) := by decide +kernel
theorem dX2_ways_4 : decode cX2_ways 4 = .ok (.iload_n 1, 1) := by decide +kernel
theorem dX2_ways_5 : decode cX2_ways 5 = .ok (.iconst 5, 1) := by decide +kernel
theorem dX2_ways_6 : decode cX2_ways 6 = .ok (.imul, 1) := by decide +kernel
theorem dX2_ways_7 : decode cX2_ways 7 = .ok (.baload, 1) := by decide +kernel
theorem dX2_ways_8 : decode cX2_ways 8 = .ok (.ifCond .eq 18, 3) := by decide +kernel
theorem dX2_ways_11 : decode cX2_ways 11 = .ok (.iload_n 3, 1) := by decide +kernel
theorem dX2_ways_12 : decode cX2_ways 12 = .ok (.iconst 2, 1) := by decide +kernel
theorem dX2_ways_13 : decode cX2_ways 13 = .ok (.if_icmp .ne 11, 3) := by decide +kernel
theorem dX2_ways_16 : decode cX2_ways 16 = .ok (.iconst 1, 1) := by decide +kernel
theorem dX2_ways_17 : decode cX2_ways 17 = .ok (.iconst 2, 1) := by decide +kernel
theorem dX2_ways_18 : decode cX2_ways 18 = .ok (.iload_n 2, 1) := by decide +kernel
theorem dX2_ways_19 : decode cX2_ways 19 = .ok (.imul, 1) := by decide +kernel
theorem dX2_ways_20 : decode cX2_ways 20 = .ok (.ishl, 1) := by decide +kernel
theorem dX2_ways_21 : decode cX2_ways 21 = .ok (.goto 4, 3) := by decide +kernel
theorem dX2_ways_24 : decode cX2_ways 24 = .ok (.iconst 0, 1) := by decide +kernel
theorem dX2_ways_25 : decode cX2_ways 25 = .ok (.ireturn, 1) := by decide +kernel
theorem dX2_ways_26 : decode cX2_ways 26 = .ok (.aload_n 0, 1) := by decide +kernel
theorem dX2_ways_27 : decode cX2_ways 27 = .ok (.getfield 13, 3) := by decide +kernel
theorem dX2_ways_30 : decode cX2_ways 30 = .ok (.iconst 0, 1) := by decide +kernel
theorem dX2_ways_31 : decode cX2_ways 31 = .ok (.invokestatic 20, 3) := by decide +kernel
theorem dX2_ways_34 : decode cX2_ways 34 = .ok (.aload_n 0, 1) := by decide +kernel
theorem dX2_ways_35 : decode cX2_ways 35 = .ok (.getfield 13, 3) := by decide +kernel
theorem dX2_ways_38 : decode cX2_ways 38 = .ok (.iload_n 1, 1) := by decide +kernel
theorem dX2_ways_39 : decode cX2_ways 39 = .ok (.iconst 5, 1) := by decide +kernel
theorem dX2_ways_40 : decode cX2_ways 40 = .ok (.imul, 1) := by decide +kernel
theorem dX2_ways_41 : decode cX2_ways 41 = .ok (.iconst 1, 1) := by decide +kernel
theorem dX2_ways_42 : decode cX2_ways 42 = .ok (.iastore, 1) := by decide +kernel
theorem dX2_ways_43 : decode cX2_ways 43 = .ok (.aload_n 0, 1) := by decide +kernel
theorem dX2_ways_44 : decode cX2_ways 44 = .ok (.iconst 0, 1) := by decide +kernel
theorem dX2_ways_45 : decode cX2_ways 45 = .ok (.putfield 26, 3) := by decide +kernel
theorem dX2_ways_48 : decode cX2_ways 48 = .ok (.aload_n 0, 1) := by decide +kernel
theorem dX2_ways_49 : decode cX2_ways 49 = .ok (.iconst 0, 1) := by decide +kernel
theorem dX2_ways_50 : decode cX2_ways 50 = .ok (.putfield 30, 3) := by decide +kernel
theorem dX2_ways_53 : decode cX2_ways 53 = .ok (.iconst 0, 1) := by decide +kernel
theorem dX2_ways_54 : decode cX2_ways 54 = .ok (.istore 4, 2) := by decide +kernel
theorem dX2_ways_56 : decode cX2_ways 56 = .ok (.iload 4, 2) := by decide +kernel
theorem dX2_ways_58 : decode cX2_ways 58 = .ok (.iload_n 2, 1) := by decide +kernel
theorem dX2_ways_59 : decode cX2_ways 59 = .ok (.if_icmp .ge 13, 3) := by decide +kernel
theorem dX2_ways_62 : decode cX2_ways 62 = .ok (.aload_n 0, 1) := by decide +kernel
theorem dX2_ways_63 : decode cX2_ways 63 = .ok (.invokevirtual 33, 3) := by decide +kernel
theorem dX2_ways_66 : decode cX2_ways 66 = .ok (.iinc 4 1, 3) := by decide +kernel
theorem dX2_ways_69 : decode cX2_ways 69 = .ok (.goto (-13), 3) := by decide +kernel
theorem dX2_ways_72 : decode cX2_ways 72 = .ok (.iload_n 3, 1) := by decide +kernel
theorem dX2_ways_73 : decode cX2_ways 73 = .ok (.iconst 2, 1) := by decide +kernel
theorem dX2_ways_74 : decode cX2_ways 74 = .ok (.if_icmp .ne 19, 3) := by decide +kernel
theorem dX2_ways_77 : decode cX2_ways 77 = .ok (.iconst 1, 1) := by decide +kernel
theorem dX2_ways_78 : decode cX2_ways 78 = .ok (.iconst 2, 1) := by decide +kernel
theorem dX2_ways_79 : decode cX2_ways 79 = .ok (.iload_n 2, 1) := by decide +kernel
theorem dX2_ways_80 : decode cX2_ways 80 = .ok (.imul, 1) := by decide +kernel
theorem dX2_ways_81 : decode cX2_ways 81 = .ok (.ishl, 1) := by decide +kernel
theorem dX2_ways_82 : decode cX2_ways 82 = .ok (.aload_n 0, 1) := by decide +kernel
theorem dX2_ways_83 : decode cX2_ways 83 = .ok (.getfield 26, 3) := by decide +kernel
theorem dX2_ways_86 : decode cX2_ways 86 = .ok (.isub, 1) := by decide +kernel
theorem dX2_ways_87 : decode cX2_ways 87 = .ok (.aload_n 0, 1) := by decide +kernel
theorem dX2_ways_88 : decode cX2_ways 88 = .ok (.getfield 30, 3) := by decide +kernel
theorem dX2_ways_91 : decode cX2_ways 91 = .ok (.isub, 1) := by decide +kernel
theorem dX2_ways_92 : decode cX2_ways 92 = .ok (.ireturn, 1) := by decide +kernel
theorem dX2_ways_93 : decode cX2_ways 93 = .ok (.iload_n 3, 1) := by decide +kernel
theorem dX2_ways_94 : decode cX2_ways 94 = .ok (.ifCond .ne 10, 3) := by decide +kernel
theorem dX2_ways_97 : decode cX2_ways 97 = .ok (.aload_n 0, 1) := by decide +kernel
theorem dX2_ways_98 : decode cX2_ways 98 = .ok (.getfield 26, 3) := by decide +kernel
theorem dX2_ways_101 : decode cX2_ways 101 = .ok (.goto 7, 3) := by decide +kernel
theorem dX2_ways_104 : decode cX2_ways 104 = .ok (.aload_n 0, 1) := by decide +kernel
theorem dX2_ways_105 : decode cX2_ways 105 = .ok (.getfield 30, 3) := by decide +kernel
theorem dX2_ways_108 : decode cX2_ways 108 = .ok (.ireturn, 1) := by decide +kernel
theorem dX2_step_0 : decode cX2_step 0 = .ok (.aload_n 0, 1) := by decide +kernel
theorem dX2_step_1 : decode cX2_step 1 = .ok (.getfield 17, 3) := by decide +kernel
theorem dX2_step_4 : decode cX2_step 4 = .ok (.iconst 0, 1) := by decide +kernel
theorem dX2_step_5 : decode cX2_step 5 = .ok (.invokestatic 20, 3) := by decide +kernel
theorem dX2_step_8 : decode cX2_step 8 = .ok (.aload_n 0, 1) := by decide +kernel
theorem dX2_step_9 : decode cX2_step 9 = .ok (.dup, 1) := by decide +kernel
theorem dX2_step_10 : decode cX2_step 10 = .ok (.getfield 26, 3) := by decide +kernel
theorem dX2_step_13 : decode cX2_step 13 = .ok (.iconst 4, 1) := by decide +kernel
theorem dX2_step_14 : decode cX2_step 14 = .ok (.imul, 1) := by decide +kernel
theorem dX2_step_15 : decode cX2_step 15 = .ok (.putfield 26, 3) := by decide +kernel
theorem dX2_step_18 : decode cX2_step 18 = .ok (.aload_n 0, 1) := by decide +kernel
theorem dX2_step_19 : decode cX2_step 19 = .ok (.dup, 1) := by decide +kernel
theorem dX2_step_20 : decode cX2_step 20 = .ok (.getfield 30, 3) := by decide +kernel
theorem dX2_step_23 : decode cX2_step 23 = .ok (.iconst 4, 1) := by decide +kernel
theorem dX2_step_24 : decode cX2_step 24 = .ok (.imul, 1) := by decide +kernel
theorem dX2_step_25 : decode cX2_step 25 = .ok (.putfield 30, 3) := by decide +kernel
theorem dX2_step_28 : decode cX2_step 28 = .ok (.iconst 0, 1) := by decide +kernel
theorem dX2_step_29 : decode cX2_step 29 = .ok (.istore_n 1, 1) := by decide +kernel
theorem dX2_step_30 : decode cX2_step 30 = .ok (.iload_n 1, 1) := by decide +kernel
theorem dX2_step_31 : decode cX2_step 31 = .ok (.bipush 25, 2) := by decide +kernel
theorem dX2_step_33 : decode cX2_step 33 = .ok (.if_icmp .ge 70, 3) := by decide +kernel
theorem dX2_step_36 : decode cX2_step 36 = .ok (.aload_n 0, 1) := by decide +kernel
theorem dX2_step_37 : decode cX2_step 37 = .ok (.getfield 13, 3) := by decide +kernel
theorem dX2_step_40 : decode cX2_step 40 = .ok (.iload_n 1, 1) := by decide +kernel
theorem dX2_step_41 : decode cX2_step 41 = .ok (.iaload, 1) := by decide +kernel
theorem dX2_step_42 : decode cX2_step 42 = .ok (.ifCond .le 55, 3) := by decide +kernel
theorem dX2_step_45 : decode cX2_step 45 = .ok (.aload_n 0, 1) := by decide +kernel
theorem dX2_step_46 : decode cX2_step 46 = .ok (.iload_n 1, 1) := by decide +kernel
theorem dX2_step_47 : decode cX2_step 47 = .ok (.iload_n 1, 1) := by decide +kernel
theorem dX2_step_48 : decode cX2_step 48 = .ok (.iconst 5, 1) := by decide +kernel
theorem dX2_step_49 : decode cX2_step 49 = .ok (.irem, 1) := by decide +kernel
theorem dX2_step_50 : decode cX2_step 50 = .ok (.iconst 1, 1) := by decide +kernel
theorem dX2_step_51 : decode cX2_step 51 = .ok (.isub, 1) := by decide +kernel
theorem dX2_step_52 : decode cX2_step 52 = .ok (.iload_n 1, 1) := by decide +kernel
theorem dX2_step_53 : decode cX2_step 53 = .ok (.iconst 5, 1) := by decide +kernel
theorem dX2_step_54 : decode cX2_step 54 = .ok (.idiv, 1) := by decide +kernel
theorem dX2_step_55 : decode cX2_step 55 = .ok (.invokevirtual 36, 3) := by decide +kernel
theorem dX2_step_58 : decode cX2_step 58 = .ok (.aload_n 0, 1) := by decide +kernel
theorem dX2_step_59 : decode cX2_step 59 = .ok (.iload_n 1, 1) := by decide +kernel
theorem dX2_step_60 : decode cX2_step 60 = .ok (.iload_n 1, 1) := by decide +kernel
theorem dX2_step_61 : decode cX2_step 61 = .ok (.iconst 5, 1) := by decide +kernel
theorem dX2_step_62 : decode cX2_step 62 = .ok (.irem, 1) := by decide +kernel
theorem dX2_step_63 : decode cX2_step 63 = .ok (.iconst 1, 1) := by decide +kernel
theorem dX2_step_64 : decode cX2_step 64 = .ok (.iadd, 1) := by decide +kernel
theorem dX2_step_65 : decode cX2_step 65 = .ok (.iload_n 1, 1) := by decide +kernel
theorem dX2_step_66 : decode cX2_step 66 = .ok (.iconst 5, 1) := by decide +kernel
theorem dX2_step_67 : decode cX2_step 67 = .ok (.idiv, 1) := by decide +kernel
theorem dX2_step_68 : decode cX2_step 68 = .ok (.invokevirtual 36, 3) := by decide +kernel
theorem dX2_step_71 : decode cX2_step 71 = .ok (.aload_n 0, 1) := by decide +kernel
theorem dX2_step_72 : decode cX2_step 72 = .ok (.iload_n 1, 1) := by decide +kernel
theorem dX2_step_73 : decode cX2_step 73 = .ok (.iload_n 1, 1) := by decide +kernel
theorem dX2_step_74 : decode cX2_step 74 = .ok (.iconst 5, 1) := by decide +kernel
theorem dX2_step_75 : decode cX2_step 75 = .ok (.irem, 1) := by decide +kernel
theorem dX2_step_76 : decode cX2_step 76 = .ok (.iload_n 1, 1) := by decide +kernel
theorem dX2_step_77 : decode cX2_step 77 = .ok (.iconst 5, 1) := by decide +kernel
theorem dX2_step_78 : decode cX2_step 78 = .ok (.idiv, 1) := by decide +kernel
theorem dX2_step_79 : decode cX2_step 79 = .ok (.iconst 1, 1) := by decide +kernel
theorem dX2_step_80 : decode cX2_step 80 = .ok (.isub, 1) := by decide +kernel
theorem dX2_step_81 : decode cX2_step 81 = .ok (.invokevirtual 36, 3) := by decide +kernel
theorem dX2_step_84 : decode cX2_step 84 = .ok (.aload_n 0, 1) := by decide +kernel
theorem dX2_step_85 : decode cX2_step 85 = .ok (.iload_n 1, 1) := by decide +kernel
theorem dX2_step_86 : decode cX2_step 86 = .ok (.iload_n 1, 1) := by decide +kernel
theorem dX2_step_87 : decode cX2_step 87 = .ok (.iconst 5, 1) := by decide +kernel
theorem dX2_step_88 : decode cX2_step 88 = .ok (.irem, 1) := by decide +kernel
theorem dX2_step_89 : decode cX2_step 89 = .ok (.iload_n 1, 1) := by decide +kernel
theorem dX2_step_90 : decode cX2_step 90 = .ok (.iconst 5, 1) := by decide +kernel
theorem dX2_step_91 : decode cX2_step 91 = .ok (.idiv, 1) := by decide +kernel
theorem dX2_step_92 : decode cX2_step 92 = .ok (.iconst 1, 1) := by decide +kernel
theorem dX2_step_93 : decode cX2_step 93 = .ok (.iadd, 1) := by decide +kernel
theorem dX2_step_94 : decode cX2_step 94 = .ok (.invokevirtual 36, 3) := by decide +kernel
theorem dX2_step_97 : decode cX2_step 97 = .ok (.iinc 1 1, 3) := by decide +kernel
theorem dX2_step_100 : decode cX2_step 100 = .ok (.goto (-70), 3) := by decide +kernel
theorem dX2_step_103 : decode cX2_step 103 = .ok (.aload_n 0, 1) := by decide +kernel
theorem dX2_step_104 : decode cX2_step 104 = .ok (.getfield 17, 3) := by decide +kernel
theorem dX2_step_107 : decode cX2_step 107 = .ok (.iconst 0, 1) := by decide +kernel
theorem dX2_step_108 : decode cX2_step 108 = .ok (.aload_n 0, 1) := by decide +kernel
theorem dX2_step_109 : decode cX2_step 109 = .ok (.getfield 13, 3) := by decide +kernel
theorem dX2_step_112 : decode cX2_step 112 = .ok (.iconst 0, 1) := by decide +kernel
theorem dX2_step_113 : decode cX2_step 113 = .ok (.bipush 25, 2) := by decide +kernel
theorem dX2_step_115 : decode cX2_step 115 = .ok (.invokestatic 40, 3) := by decide +kernel
theorem dX2_step_118 : decode cX2_step 118 = .ok (.return_, 1) := by decide +kernel
theorem dX2_go_0 : decode cX2_go 0 = .ok (.iload_n 2, 1) := by decide +kernel
theorem dX2_go_1 : decode cX2_go 1 = .ok (.ifCond .ge 21, 3) := by decide +kernel
theorem dX2_go_4 : decode cX2_go 4 = .ok (.aload_n 0, 1) := by decide +kernel
theorem dX2_go_5 : decode cX2_go 5 = .ok (.dup, 1) := by decide +kernel
theorem dX2_go_6 : decode cX2_go 6 = .ok (.getfield 30, 3) := by decide +kernel
theorem dX2_go_9 : decode cX2_go 9 = .ok (.aload_n 0, 1) := by decide +kernel
theorem dX2_go_10 : decode cX2_go 10 = .ok (.getfield 13, 3) := by decide +kernel
theorem dX2_go_13 : decode cX2_go 13 = .ok (.iload_n 1, 1) := by decide +kernel
theorem dX2_go_14 : decode cX2_go 14 = .ok (.iaload, 1) := by decide +kernel
theorem dX2_go_15 : decode cX2_go 15 = .ok (.iadd, 1) := by decide +kernel
theorem dX2_go_16 : decode cX2_go 16 = .ok (.putfield 30, 3) := by decide +kernel
theorem dX2_go_19 : decode cX2_go 19 = .ok (.goto 85, 3) := by decide +kernel
theorem dX2_go_22 : decode cX2_go 22 = .ok (.iload_n 2, 1) := by decide +kernel
theorem dX2_go_23 : decode cX2_go 23 = .ok (.iconst 5, 1) := by decide +kernel
theorem dX2_go_24 : decode cX2_go 24 = .ok (.if_icmp .lt 21, 3) := by decide +kernel
theorem dX2_go_27 : decode cX2_go 27 = .ok (.aload_n 0, 1) := by decide +kernel
theorem dX2_go_28 : decode cX2_go 28 = .ok (.dup, 1) := by decide +kernel
theorem dX2_go_29 : decode cX2_go 29 = .ok (.getfield 26, 3) := by decide +kernel
theorem dX2_go_32 : decode cX2_go 32 = .ok (.aload_n 0, 1) := by decide +kernel
theorem dX2_go_33 : decode cX2_go 33 = .ok (.getfield 13, 3) := by decide +kernel
theorem dX2_go_36 : decode cX2_go 36 = .ok (.iload_n 1, 1) := by decide +kernel
theorem dX2_go_37 : decode cX2_go 37 = .ok (.iaload, 1) := by decide +kernel
theorem dX2_go_38 : decode cX2_go 38 = .ok (.iadd, 1) := by decide +kernel
theorem dX2_go_39 : decode cX2_go 39 = .ok (.putfield 26, 3) := by decide +kernel
theorem dX2_go_42 : decode cX2_go 42 = .ok (.goto 62, 3) := by decide +kernel
theorem dX2_go_45 : decode cX2_go 45 = .ok (.iload_n 3, 1) := by decide +kernel
theorem dX2_go_46 : decode cX2_go 46 = .ok (.ifCond .lt 21, 3) := by decide +kernel
theorem dX2_go_49 : decode cX2_go 49 = .ok (.iload_n 3, 1) := by decide +kernel
theorem dX2_go_50 : decode cX2_go 50 = .ok (.iconst 5, 1) := by decide +kernel
theorem dX2_go_51 : decode cX2_go 51 = .ok (.if_icmp .ge 16, 3) := by decide +kernel
theorem dX2_go_54 : decode cX2_go 54 = .ok (.aload_n 0, 1) := by decide +kernel
theorem dX2_go_55 : decode cX2_go 55 = .ok (.getfield 9, 3) := by decide +kernel
theorem dX2_go_58 : decode cX2_go 58 = .ok (.iload_n 3, 1) := by decide +kernel
theorem dX2_go_59 : decode cX2_go 59 = .ok (.iconst 5, 1) := by decide +kernel
theorem dX2_go_60 : decode cX2_go 60 = .ok (.imul, 1) := by decide +kernel
theorem dX2_go_61 : decode cX2_go 61 = .ok (.iload_n 2, 1) := by decide +kernel
theorem dX2_go_62 : decode cX2_go 62 = .ok (.iadd, 1) := by decide +kernel
theorem dX2_go_63 : decode cX2_go 63 = .ok (.baload, 1) := by decide +kernel
theorem dX2_go_64 : decode cX2_go 64 = .ok (.ifCond .eq 21, 3) := by decide +kernel
theorem dX2_go_67 : decode cX2_go 67 = .ok (.aload_n 0, 1) := by decide +kernel
theorem dX2_go_68 : decode cX2_go 68 = .ok (.getfield 17, 3) := by decide +kernel
theorem dX2_go_71 : decode cX2_go 71 = .ok (.iload_n 1, 1) := by decide +kernel
theorem dX2_go_72 : decode cX2_go 72 = .ok (.dup2, 1) := by decide +kernel
theorem dX2_go_73 : decode cX2_go 73 = .ok (.iaload, 1) := by decide +kernel
theorem dX2_go_74 : decode cX2_go 74 = .ok (.aload_n 0, 1) := by decide +kernel
theorem dX2_go_75 : decode cX2_go 75 = .ok (.getfield 13, 3) := by decide +kernel
theorem dX2_go_78 : decode cX2_go 78 = .ok (.iload_n 1, 1) := by decide +kernel
theorem dX2_go_79 : decode cX2_go 79 = .ok (.iaload, 1) := by decide +kernel
theorem dX2_go_80 : decode cX2_go 80 = .ok (.iadd, 1) := by decide +kernel
theorem dX2_go_81 : decode cX2_go 81 = .ok (.iastore, 1) := by decide +kernel
theorem dX2_go_82 : decode cX2_go 82 = .ok (.goto 22, 3) := by decide +kernel
theorem dX2_go_85 : decode cX2_go 85 = .ok (.aload_n 0, 1) := by decide +kernel
theorem dX2_go_86 : decode cX2_go 86 = .ok (.getfield 17, 3) := by decide +kernel
theorem dX2_go_89 : decode cX2_go 89 = .ok (.iload_n 3, 1) := by decide +kernel
theorem dX2_go_90 : decode cX2_go 90 = .ok (.iconst 5, 1) := by decide +kernel
theorem dX2_go_91 : decode cX2_go 91 = .ok (.imul, 1) := by decide +kernel
theorem dX2_go_92 : decode cX2_go 92 = .ok (.iload_n 2, 1) := by decide +kernel
theorem dX2_go_93 : decode cX2_go 93 = .ok (.iadd, 1) := by decide +kernel
theorem dX2_go_94 : decode cX2_go 94 = .ok (.dup2, 1) := by decide +kernel
theorem dX2_go_95 : decode cX2_go 95 = .ok (.iaload, 1) := by decide +kernel
theorem dX2_go_96 : decode cX2_go 96 = .ok (.aload_n 0, 1) := by decide +kernel
theorem dX2_go_97 : decode cX2_go 97 = .ok (.getfield 13, 3) := by decide +kernel
theorem dX2_go_100 : decode cX2_go 100 = .ok (.iload_n 1, 1) := by decide +kernel
theorem dX2_go_101 : decode cX2_go 101 = .ok (.iaload, 1) := by decide +kernel
theorem dX2_go_102 : decode cX2_go 102 = .ok (.iadd, 1) := by decide +kernel
theorem dX2_go_103 : decode cX2_go 103 = .ok (.iastore, 1) := by decide +kernel
theorem dX2_go_104 : decode cX2_go 104 = .ok (.return_, 1) := by decide +kernel
theorem dX3_init_0 : decode cX3_init 0 = .ok (.aload_n 0, 1) := by decide +kernel
theorem dX3_init_1 : decode cX3_init 1 = .ok (.invokespecial 3, 3) := by decide +kernel
theorem dX3_init_4 : decode cX3_init 4 = .ok (.aload_n 0, 1) := by decide +kernel
theorem dX3_init_5 : decode cX3_init 5 = .ok (.bipush 9, 2) := by decide +kernel
theorem dX3_init_7 : decode cX3_init 7 = .ok (.newarray .int, 2) := by decide +kernel
theorem dX3_init_9 : decode cX3_init 9 = .ok (.putfield 11, 3) := by decide +kernel
theorem dX3_init_12 : decode cX3_init 12 = .ok (.aload_n 0, 1) := by decide +kernel
theorem dX3_init_13 : decode cX3_init 13 = .ok (.iconst 3, 1) := by decide +kernel
theorem dX3_init_14 : decode cX3_init 14 = .ok (.newarray .int, 2) := by decide +kernel
theorem dX3_init_16 : decode cX3_init 16 = .ok (.putfield 15, 3) := by decide +kernel
theorem dX3_init_19 : decode cX3_init 19 = .ok (.aload_n 0, 1) := by decide +kernel
theorem dX3_init_20 : decode cX3_init 20 = .ok (.iconst 3, 1) := by decide +kernel
theorem dX3_init_21 : decode cX3_init 21 = .ok (.newarray .int, 2) := by decide +kernel
theorem dX3_init_23 : decode cX3_init 23 = .ok (.putfield 18, 3) := by decide +kernel
theorem dX3_init_26 : decode cX3_init 26 = .ok (.aload_n 0, 1) := by decide +kernel
theorem dX3_init_27 : decode cX3_init 27 = .ok (.iconst 3, 1) := by decide +kernel
theorem dX3_init_28 : decode cX3_init 28 = .ok (.newarray .int, 2) := by decide +kernel
theorem dX3_init_30 : decode cX3_init 30 = .ok (.putfield 21, 3) := by decide +kernel
theorem dX3_init_33 : decode cX3_init 33 = .ok (.aload_n 0, 1) := by decide +kernel
theorem dX3_init_34 : decode cX3_init 34 = .ok (.getfield 11, 3) := by decide +kernel
theorem dX3_init_37 : decode cX3_init 37 = .ok (.iconst 1, 1) := by decide +kernel
theorem dX3_init_38 : decode cX3_init 38 = .ok (.invokestatic 24, 3) := by decide +kernel
theorem dX3_init_41 : decode cX3_init 41 = .ok (.aload_n 0, 1) := by decide +kernel
theorem dX3_init_42 : decode cX3_init 42 = .ok (.getfield 15, 3) := by decide +kernel
theorem dX3_init_45 : decode cX3_init 45 = .ok (.iconst (-1), 1) := by decide +kernel
theorem dX3_init_46 : decode cX3_init 46 = .ok (.invokestatic 24, 3) := by decide +kernel
theorem dX3_init_49 : decode cX3_init 49 = .ok (.return_, 1) := by decide +kernel
theorem dX3_shown_0 : decode cX3_shown 0 = .ok (.lconst 0, 1) := by decide +kernel
theorem dX3_shown_1 : decode cX3_shown 1 = .ok (.lstore 4, 2) := by decide +kernel
theorem dX3_shown_3 : decode cX3_shown 3 = .ok (.iconst 0, 1) := by decide +kernel
theorem dX3_shown_4 : decode cX3_shown 4 = .ok (.istore 6, 2) := by decide +kernel
theorem dX3_shown_6 : decode cX3_shown 6 = .ok (.iload 6, 2) := by decide +kernel
theorem dX3_shown_8 : decode cX3_shown 8 = .ok (.iconst 3, 1) := by decide +kernel
theorem dX3_shown_9 : decode cX3_shown 9 = .ok (.if_icmp .ge 36, 3) := by decide +kernel
theorem dX3_shown_12 : decode cX3_shown 12 = .ok (.lload 4, 2) := by decide +kernel
theorem dX3_shown_14 : decode cX3_shown 14 = .ok (.aload_n 0, 1) := by decide +kernel
theorem dX3_shown_15 : decode cX3_shown 15 = .ok (.getfield 11, 3) := by decide +kernel
theorem dX3_shown_18 : decode cX3_shown 18 = .ok (.iload_n 1, 1) := by decide +kernel
theorem dX3_shown_19 : decode cX3_shown 19 = .ok (.iconst 3, 1) := by decide +kernel
theorem dX3_shown_20 : decode cX3_shown 20 = .ok (.imul, 1) := by decide +kernel
theorem dX3_shown_21 : decode cX3_shown 21 = .ok (.iload 6, 2) := by decide +kernel
theorem dX3_shown_23 : decode cX3_shown 23 = .ok (.iadd, 1) := by decide +kernel
theorem dX3_shown_24 : decode cX3_shown 24 = .ok (.iaload, 1) := by decide +kernel
theorem dX3_shown_25 : decode cX3_shown 25 = .ok (.i2l, 1) := by decide +kernel
theorem dX3_shown_26 : decode cX3_shown 26 = .ok (.aload_n 2, 1) := by decide +kernel
theorem dX3_shown_27 : decode cX3_shown 27 = .ok (.iload_n 3, 1) := by decide +kernel
theorem dX3_shown_28 : decode cX3_shown 28 = .ok (.iload 6, 2) := by decide +kernel
theorem dX3_shown_30 : decode cX3_shown 30 = .ok (.iconst 0, 1) := by decide +kernel
theorem dX3_shown_31 : decode cX3_shown 31 = .ok (.invokevirtual 30, 3) := by decide +kernel
theorem dX3_shown_34 : decode cX3_shown 34 = .ok (.i2l, 1) := by decide +kernel
theorem dX3_shown_35 : decode cX3_shown 35 = .ok (.lmul, 1) := by decide +kernel
theorem dX3_shown_36 : decode cX3_shown 36 = .ok (.ladd, 1) := by decide +kernel
theorem dX3_shown_37 : decode cX3_shown 37 = .ok (.lstore 4, 2) := by decide +kernel
theorem dX3_shown_39 : decode cX3_shown 39 = .ok (.iinc 6 1, 3) := by decide +kernel
theorem dX3_shown_42 : decode cX3_shown 42 = .ok (.goto (-36), 3) := by decide +kernel
theorem dX3_shown_45 : decode cX3_shown 45 = .ok (.ldc2_w 36, 3) := by decide +kernel
theorem dX3_shown_48 : decode cX3_shown 48 = .ok (.lload 4, 2) := by decide +kernel
theorem dX3_shown_50 : decode cX3_shown 50 = .ok (.ldc2_w 38, 3) := by decide +kernel
theorem dX3_shown_53 : decode cX3_shown 53 = .ok (.ldiv, 1) := by decide +kernel
theorem dX3_shown_54 : decode cX3_shown 54 = .ok (.invokestatic 40, 3) := by decide +kernel
theorem dX3_shown_57 : decode cX3_shown 57 = .ok (.l2i, 1) := by decide +kernel
theorem dX3_shown_58 : decode cX3_shown 58 = .ok (.ireturn, 1) := by decide +kernel
theorem dX3_hidden_0 : decode cX3_hidden 0 = .ok (.iconst 0, 1) := by decide +kernel
theorem dX3_hidden_1 : decode cX3_hidden 1 = .ok (.istore_n 1, 1) := by decide +kernel
theorem dX3_hidden_2 : decode cX3_hidden 2 = .ok (.iconst 0, 1) := by decide +kernel
theorem dX3_hidden_3 : decode cX3_hidden 3 = .ok (.istore_n 2, 1) := by decide +kernel
theorem dX3_hidden_4 : decode cX3_hidden 4 = .ok (.iload_n 2, 1) := by decide +kernel
theorem dX3_hidden_5 : decode cX3_hidden 5 = .ok (.iconst 3, 1) := by decide +kernel
theorem dX3_hidden_6 : decode cX3_hidden 6 = .ok (.if_icmp .ge 72, 3) := by decide +kernel
theorem dX3_hidden_9 : decode cX3_hidden 9 = .ok (.iconst 0, 1) := by decide +kernel
theorem dX3_hidden_10 : decode cX3_hidden 10 = .ok (.istore_n 3, 1) := by decide +kernel
theorem dX3_hidden_11 : decode cX3_hidden 11 = .ok (.iconst 0, 1) := by decide +kernel
theorem dX3_hidden_12 : decode cX3_hidden 12 = .ok (.istore 4, 2) := by decide +kernel
theorem dX3_hidden_14 : decode cX3_hidden 14 = .ok (.iload 4, 2) := by decide +kernel
theorem dX3_hidden_16 : decode cX3_hidden 16 = .ok (.iconst 3, 1) := by decide +kernel
theorem dX3_hidden_17 : decode cX3_hidden 17 = .ok (.if_icmp .ge 41, 3) := by decide +kernel
theorem dX3_hidden_20 : decode cX3_hidden 20 = .ok (.iload_n 3, 1) := by decide +kernel
theorem dX3_hidden_21 : decode cX3_hidden 21 = .ok (.aload_n 0, 1) := by decide +kernel
theorem dX3_hidden_22 : decode cX3_hidden 22 = .ok (.getfield 15, 3) := by decide +kernel
theorem dX3_hidden_25 : decode cX3_hidden 25 = .ok (.iload 4, 2) := by decide +kernel
theorem dX3_hidden_27 : decode cX3_hidden 27 = .ok (.iaload, 1) := by decide +kernel
theorem dX3_hidden_28 : decode cX3_hidden 28 = .ok (.ifCond .lt 21, 3) := by decide +kernel
theorem dX3_hidden_31 : decode cX3_hidden 31 = .ok (.aload_n 0, 1) := by decide +kernel
theorem dX3_hidden_32 : decode cX3_hidden 32 = .ok (.getfield 11, 3) := by decide +kernel
theorem dX3_hidden_35 : decode cX3_hidden 35 = .ok (.iload 4, 2) := by decide +kernel
theorem dX3_hidden_37 : decode cX3_hidden 37 = .ok (.iconst 3, 1) := by decide +kernel
theorem dX3_hidden_38 : decode cX3_hidden 38 = .ok (.imul, 1) := by decide +kernel
theorem dX3_hidden_39 : decode cX3_hidden 39 = .ok (.iload_n 2, 1) := by decide +kernel
theorem dX3_hidden_40 : decode cX3_hidden 40 = .ok (.iadd, 1) := by decide +kernel
theorem dX3_hidden_41 : decode cX3_hidden 41 = .ok (.iaload, 1) := by decide +kernel
theorem dX3_hidden_42 : decode cX3_hidden 42 = .ok (.ifCond .le 7, 3) := by decide +kernel
theorem dX3_hidden_45 : decode cX3_hidden 45 = .ok (.iconst 1, 1) := by decide +kernel
theorem dX3_hidden_46 : decode cX3_hidden 46 = .ok (.goto 4, 3) := by decide +kernel
theorem dX3_hidden_49 : decode cX3_hidden 49 = .ok (.iconst 0, 1) := by decide +kernel
theorem dX3_hidden_50 : decode cX3_hidden 50 = .ok (.ior, 1) := by decide +kernel
theorem dX3_hidden_51 : decode cX3_hidden 51 = .ok (.istore_n 3, 1) := by decide +kernel
theorem dX3_hidden_52 : decode cX3_hidden 52 = .ok (.iinc 4 1, 3) := by decide +kernel
theorem dX3_hidden_55 : decode cX3_hidden 55 = .ok (.goto (-41), 3) := by decide +kernel
theorem dX3_hidden_58 : decode cX3_hidden 58 = .ok (.iload_n 1, 1) := by decide +kernel
theorem dX3_hidden_59 : decode cX3_hidden 59 = .ok (.iload_n 3, 1) := by decide +kernel
theorem dX3_hidden_60 : decode cX3_hidden 60 = .ok (.ifCond .eq 7, 3) := by decide +kernel
theorem dX3_hidden_63 : decode cX3_hidden 63 = .ok (.iconst 0, 1) := by decide +kernel
theorem dX3_hidden_64 : decode cX3_hidden 64 = .ok (.goto 6, 3) := by decide +kernel
theorem dX3_hidden_67 : decode cX3_hidden 67 = .ok (.iconst 1, 1) := by decide +kernel
theorem dX3_hidden_68 : decode cX3_hidden 68 = .ok (.iload_n 2, 1) := by decide +kernel
theorem dX3_hidden_69 : decode cX3_hidden 69 = .ok (.ishl, 1) := by decide +kernel
theorem dX3_hidden_70 : decode cX3_hidden 70 = .ok (.ior, 1) := by decide +kernel
theorem dX3_hidden_71 : decode cX3_hidden 71 = .ok (.istore_n 1, 1) := by decide +kernel
theorem dX3_hidden_72 : decode cX3_hidden 72 = .ok (.iinc 2 1, 3) := by decide +kernel
theorem dX3_hidden_75 : decode cX3_hidden 75 = .ok (.goto (-71), 3) := by decide +kernel
theorem dX3_hidden_78 : decode cX3_hidden 78 = .ok (.iload_n 1, 1) := by decide +kernel
theorem dX3_hidden_79 : decode cX3_hidden 79 = .ok (.ireturn, 1) := by decide +kernel
theorem dX3_possible_0 : decode cX3_possible 0 = .ok (.aload_n 0, 1) := by decide +kernel
theorem dX3_possible_1 : decode cX3_possible 1 = .ok (.getfield 18, 3) := by decide +kernel
theorem dX3_possible_4 : decode cX3_possible 4 = .ok (.bipush 41, 2) := by decide +kernel
theorem dX3_possible_6 : decode cX3_possible 6 = .ok (.invokestatic 24, 3) := by decide +kernel
theorem dX3_possible_9 : decode cX3_possible 9 = .ok (.aload_n 0, 1) := by decide +kernel
theorem dX3_possible_10 : decode cX3_possible 10 = .ok (.getfield 21, 3) := by decide +kernel
theorem dX3_possible_13 : decode cX3_possible 13 = .ok (.bipush (-9), 2) := by decide +kernel
theorem dX3_possible_15 : decode cX3_possible 15 = .ok (.invokestatic 24, 3) := by decide +kernel
theorem dX3_possible_18 : decode cX3_possible 18 = .ok (.iconst 0, 1) := by decide +kernel
theorem dX3_possible_19 : decode cX3_possible 19 = .ok (.istore_n 3, 1) := by decide +kernel
theorem dX3_possible_20 : decode cX3_possible 20 = .ok (.iconst 0, 1) := by decide +kernel
theorem dX3_possible_21 : decode cX3_possible 21 = .ok (.istore 4, 2) := by decide +kernel
theorem dX3_possible_23 : decode cX3_possible 23 = .ok (.iload 4, 2) := by decide +kernel
theorem dX3_possible_25 : decode cX3_possible 25 = .ok (.bipush 40, 2) := by decide +kernel
theorem dX3_possible_27 : decode cX3_possible 27 = .ok (.if_icmp .gt 90, 3) := by decide +kernel
theorem dX3_possible_30 : decode cX3_possible 30 = .ok (.iconst 0, 1) := by decide +kernel
theorem dX3_possible_31 : decode cX3_possible 31 = .ok (.istore 5, 2) := by decide +kernel
theorem dX3_possible_33 : decode cX3_possible 33 = .ok (.iload 5, 2) := by decide +kernel
theorem dX3_possible_35 : decode cX3_possible 35 = .ok (.bipush 40, 2) := by decide +kernel
theorem dX3_possible_37 : decode cX3_possible 37 = .ok (.if_icmp .gt 74, 3) := by decide +kernel
theorem dX3_possible_40 : decode cX3_possible 40 = .ok (.aload_n 0, 1) := by decide +kernel
theorem dX3_possible_41 : decode cX3_possible 41 = .ok (.iload_n 1, 1) := by decide +kernel
theorem dX3_possible_42 : decode cX3_possible 42 = .ok (.iload 4, 2) := by decide +kernel
theorem dX3_possible_44 : decode cX3_possible 44 = .ok (.iload 5, 2) := by decide +kernel
theorem dX3_possible_46 : decode cX3_possible 46 = .ok (.invokevirtual 46, 3) := by decide +kernel
theorem dX3_possible_49 : decode cX3_possible 49 = .ok (.aload_n 0, 1) := by decide +kernel
theorem dX3_possible_50 : decode cX3_possible 50 = .ok (.getfield 50, 3) := by decide +kernel
theorem dX3_possible_53 : decode cX3_possible 53 = .ok (.aload_n 0, 1) := by decide +kernel
theorem dX3_possible_54 : decode cX3_possible 54 = .ok (.getfield 54, 3) := by decide +kernel
theorem dX3_possible_57 : decode cX3_possible 57 = .ok (.if_icmp .gt 48, 3) := by decide +kernel
theorem dX3_possible_60 : decode cX3_possible 60 = .ok (.iload_n 3, 1) := by decide +kernel
theorem dX3_possible_61 : decode cX3_possible 61 = .ok (.aload_n 0, 1) := by decide +kernel
theorem dX3_possible_62 : decode cX3_possible 62 = .ok (.getfield 54, 3) := by decide +kernel
theorem dX3_possible_65 : decode cX3_possible 65 = .ok (.aload_n 0, 1) := by decide +kernel
theorem dX3_possible_66 : decode cX3_possible 66 = .ok (.getfield 50, 3) := by decide +kernel
theorem dX3_possible_69 : decode cX3_possible 69 = .ok (.isub, 1) := by decide +kernel
theorem dX3_possible_70 : decode cX3_possible 70 = .ok (.iconst 1, 1) := by decide +kernel
theorem dX3_possible_71 : decode cX3_possible 71 = .ok (.iadd, 1) := by decide +kernel
theorem dX3_possible_72 : decode cX3_possible 72 = .ok (.iadd, 1) := by decide +kernel
theorem dX3_possible_73 : decode cX3_possible 73 = .ok (.istore_n 3, 1) := by decide +kernel
theorem dX3_possible_74 : decode cX3_possible 74 = .ok (.aload_n 0, 1) := by decide +kernel
theorem dX3_possible_75 : decode cX3_possible 75 = .ok (.iconst 0, 1) := by decide +kernel
theorem dX3_possible_76 : decode cX3_possible 76 = .ok (.iload 4, 2) := by decide +kernel
theorem dX3_possible_78 : decode cX3_possible 78 = .ok (.iload 4, 2) := by decide +kernel
theorem dX3_possible_80 : decode cX3_possible 80 = .ok (.invokevirtual 57, 3) := by decide +kernel
theorem dX3_possible_83 : decode cX3_possible 83 = .ok (.aload_n 0, 1) := by decide +kernel
theorem dX3_possible_84 : decode cX3_possible 84 = .ok (.iconst 1, 1) := by decide +kernel
theorem dX3_possible_85 : decode cX3_possible 85 = .ok (.iload 5, 2) := by decide +kernel
theorem dX3_possible_87 : decode cX3_possible 87 = .ok (.iload 5, 2) := by decide +kernel
theorem dX3_possible_89 : decode cX3_possible 89 = .ok (.invokevirtual 57, 3) := by decide +kernel
theorem dX3_possible_92 : decode cX3_possible 92 = .ok (.aload_n 0, 1) := by decide +kernel
theorem dX3_possible_93 : decode cX3_possible 93 = .ok (.iconst 2, 1) := by decide +kernel
theorem dX3_possible_94 : decode cX3_possible 94 = .ok (.aload_n 0, 1) := by decide +kernel
theorem dX3_possible_95 : decode cX3_possible 95 = .ok (.getfield 50, 3) := by decide +kernel
theorem dX3_possible_98 : decode cX3_possible 98 = .ok (.aload_n 0, 1) := by decide +kernel
theorem dX3_possible_99 : decode cX3_possible 99 = .ok (.getfield 54, 3) := by decide +kernel
theorem dX3_possible_102 : decode cX3_possible 102 = .ok (.invokevirtual 57, 3) := by decide +kernel
theorem dX3_possible_105 : decode cX3_possible 105 = .ok (.iinc 5 1, 3) := by decide +kernel
theorem dX3_possible_108 : decode cX3_possible 108 = .ok (.goto (-75), 3) := by decide +kernel
theorem dX3_possible_111 : decode cX3_possible 111 = .ok (.iinc 4 1, 3) := by decide +kernel
theorem dX3_possible_114 : decode cX3_possible 114 = .ok (.goto (-91), 3) := by decide +kernel
theorem dX3_possible_117 : decode cX3_possible 117 = .ok (.iload_n 2, 1) := by decide +kernel
theorem dX3_possible_118 : decode cX3_possible 118 = .ok (.ifCond .ne 5, 3) := by decide +kernel
theorem dX3_possible_121 : decode cX3_possible 121 = .ok (.iload_n 3, 1) := by decide +kernel
theorem dX3_possible_122 : decode cX3_possible 122 = .ok (.ireturn, 1) := by decide +kernel
theorem dX3_possible_123 : decode cX3_possible 123 = .ok (.iload_n 2, 1) := by decide +kernel
theorem dX3_possible_124 : decode cX3_possible 124 = .ok (.iconst 1, 1) := by decide +kernel
theorem dX3_possible_125 : decode cX3_possible 125 = .ok (.if_icmp .lt 26, 3) := by decide +kernel
theorem dX3_possible_128 : decode cX3_possible 128 = .ok (.iload_n 2, 1) := by decide +kernel
theorem dX3_possible_129 : decode cX3_possible 129 = .ok (.iconst 3, 1) := by decide +kernel
theorem dX3_possible_130 : decode cX3_possible 130 = .ok (.if_icmp .gt 21, 3) := by decide +kernel
theorem dX3_possible_133 : decode cX3_possible 133 = .ok (.iload_n 3, 1) := by decide +kernel
theorem dX3_possible_134 : decode cX3_possible 134 = .ok (.ifCond .ne 8, 3) := by decide +kernel
theorem dX3_possible_137 : decode cX3_possible 137 = .ok (.bipush (-9), 2) := by decide +kernel
theorem dX3_possible_139 : decode cX3_possible 139 = .ok (.goto 11, 3) := by decide +kernel
theorem dX3_possible_142 : decode cX3_possible 142 = .ok (.aload_n 0, 1) := by decide +kernel
theorem dX3_possible_143 : decode cX3_possible 143 = .ok (.getfield 18, 3) := by decide +kernel
theorem dX3_possible_146 : decode cX3_possible 146 = .ok (.iload_n 2, 1) := by decide +kernel
theorem dX3_possible_147 : decode cX3_possible 147 = .ok (.iconst 1, 1) := by decide +kernel
theorem dX3_possible_148 : decode cX3_possible 148 = .ok (.isub, 1) := by decide +kernel
theorem dX3_possible_149 : decode cX3_possible 149 = .ok (.iaload, 1) := by decide +kernel
theorem dX3_possible_150 : decode cX3_possible 150 = .ok (.ireturn, 1) := by decide +kernel
theorem dX3_possible_151 : decode cX3_possible 151 = .ok (.iload_n 2, 1) := by decide +kernel
theorem dX3_possible_152 : decode cX3_possible 152 = .ok (.iconst 3, 1) := by decide +kernel
theorem dX3_possible_153 : decode cX3_possible 153 = .ok (.if_icmp .le 22, 3) := by decide +kernel
theorem dX3_possible_156 : decode cX3_possible 156 = .ok (.iload_n 2, 1) := by decide +kernel
theorem dX3_possible_157 : decode cX3_possible 157 = .ok (.bipush 6, 2) := by decide +kernel
theorem dX3_possible_159 : decode cX3_possible 159 = .ok (.if_icmp .gt 16, 3) := by decide +kernel
theorem dX3_possible_162 : decode cX3_possible 162 = .ok (.aload_n 0, 1) := by decide +kernel
theorem dX3_possible_163 : decode cX3_possible 163 = .ok (.getfield 21, 3) := by decide +kernel
theorem dX3_possible_166 : decode cX3_possible 166 = .ok (.iload_n 2, 1) := by decide +kernel
theorem dX3_possible_167 : decode cX3_possible 167 = .ok (.iconst 1, 1) := by decide +kernel
theorem dX3_possible_168 : decode cX3_possible 168 = .ok (.isub, 1) := by decide +kernel
theorem dX3_possible_169 : decode cX3_possible 169 = .ok (.iconst 3, 1) := by decide +kernel
theorem dX3_possible_170 : decode cX3_possible 170 = .ok (.isub, 1) := by decide +kernel
theorem dX3_possible_171 : decode cX3_possible 171 = .ok (.iaload, 1) := by decide +kernel
theorem dX3_possible_172 : decode cX3_possible 172 = .ok (.goto 5, 3) := by decide +kernel
theorem dX3_possible_175 : decode cX3_possible 175 = .ok (.bipush (-9), 2) := by decide +kernel
theorem dX3_possible_177 : decode cX3_possible 177 = .ok (.ireturn, 1) := by decide +kernel
theorem dX3_note_0 : decode cX3_note 0 = .ok (.aload_n 0, 1) := by decide +kernel
theorem dX3_note_1 : decode cX3_note 1 = .ok (.getfield 18, 3) := by decide +kernel
theorem dX3_note_4 : decode cX3_note 4 = .ok (.iload_n 1, 1) := by decide +kernel
theorem dX3_note_5 : decode cX3_note 5 = .ok (.aload_n 0, 1) := by decide +kernel
theorem dX3_note_6 : decode cX3_note 6 = .ok (.getfield 18, 3) := by decide +kernel
theorem dX3_note_9 : decode cX3_note 9 = .ok (.iload_n 1, 1) := by decide +kernel
theorem dX3_note_10 : decode cX3_note 10 = .ok (.iaload, 1) := by decide +kernel
theorem dX3_note_11 : decode cX3_note 11 = .ok (.iload_n 2, 1) := by decide +kernel
theorem dX3_note_12 : decode cX3_note 12 = .ok (.invokestatic 60, 3) := by decide +kernel
theorem dX3_note_15 : decode cX3_note 15 = .ok (.iastore, 1) := by decide +kernel
theorem dX3_note_16 : decode cX3_note 16 = .ok (.aload_n 0, 1) := by decide +kernel
theorem dX3_note_17 : decode cX3_note 17 = .ok (.getfield 21, 3) := by decide +kernel
theorem dX3_note_20 : decode cX3_note 20 = .ok (.iload_n 1, 1) := by decide +kernel
theorem dX3_note_21 : decode cX3_note 21 = .ok (.aload_n 0, 1) := by decide +kernel
theorem dX3_note_22 : decode cX3_note 22 = .ok (.getfield 21, 3) := by decide +kernel
theorem dX3_note_25 : decode cX3_note 25 = .ok (.iload_n 1, 1) := by decide +kernel
theorem dX3_note_26 : decode cX3_note 26 = .ok (.iaload, 1) := by decide +kernel
theorem dX3_note_27 : decode cX3_note 27 = .ok (.iload_n 3, 1) := by decide +kernel
theorem dX3_note_28 : decode cX3_note 28 = .ok (.invokestatic 63, 3) := by decide +kernel
theorem dX3_note_31 : decode cX3_note 31 = .ok (.iastore, 1) := by decide +kernel
theorem dX3_note_32 : decode cX3_note 32 = .ok (.return_, 1) := by decide +kernel
theorem dX3_bound_0 : decode cX3_bound 0 = .ok (.aload_n 0, 1) := by decide +kernel
theorem dX3_bound_1 : decode cX3_bound 1 = .ok (.iconst 0, 1) := by decide +kernel
theorem dX3_bound_2 : decode cX3_bound 2 = .ok (.putfield 50, 3) := by decide +kernel
theorem dX3_bound_5 : decode cX3_bound 5 = .ok (.aload_n 0, 1) := by decide +kernel
theorem dX3_bound_6 : decode cX3_bound 6 = .ok (.bipush 40, 2) := by decide +kernel
theorem dX3_bound_8 : decode cX3_bound 8 = .ok (.putfield 54, 3) := by decide +kernel
theorem dX3_bound_11 : decode cX3_bound 11 = .ok (.iconst 0, 1) := by decide +kernel
theorem dX3_bound_12 : decode cX3_bound 12 = .ok (.istore 4, 2) := by decide +kernel
theorem dX3_bound_14 : decode cX3_bound 14 = .ok (.iload 4, 2) := by decide +kernel
theorem dX3_bound_16 : decode cX3_bound 16 = .ok (.iconst 3, 1) := by decide +kernel
theorem dX3_bound_17 : decode cX3_bound 17 = .ok (.if_icmp .ge 102, 3) := by decide +kernel
theorem dX3_bound_20 : decode cX3_bound 20 = .ok (.aload_n 0, 1) := by decide +kernel
theorem dX3_bound_21 : decode cX3_bound 21 = .ok (.getfield 15, 3) := by decide +kernel
theorem dX3_bound_24 : decode cX3_bound 24 = .ok (.iload 4, 2) := by decide +kernel
theorem dX3_bound_26 : decode cX3_bound 26 = .ok (.iaload, 1) := by decide +kernel
theorem dX3_bound_27 : decode cX3_bound 27 = .ok (.ifCond .lt 86, 3) := by decide +kernel
theorem dX3_bound_30 : decode cX3_bound 30 = .ok (.aload_n 0, 1) := by decide +kernel
theorem dX3_bound_31 : decode cX3_bound 31 = .ok (.getfield 11, 3) := by decide +kernel
theorem dX3_bound_34 : decode cX3_bound 34 = .ok (.iload 4, 2) := by decide +kernel
theorem dX3_bound_36 : decode cX3_bound 36 = .ok (.iconst 3, 1) := by decide +kernel
theorem dX3_bound_37 : decode cX3_bound 37 = .ok (.imul, 1) := by decide +kernel
theorem dX3_bound_38 : decode cX3_bound 38 = .ok (.iaload, 1) := by decide +kernel
theorem dX3_bound_39 : decode cX3_bound 39 = .ok (.iload_n 2, 1) := by decide +kernel
theorem dX3_bound_40 : decode cX3_bound 40 = .ok (.imul, 1) := by decide +kernel
theorem dX3_bound_41 : decode cX3_bound 41 = .ok (.aload_n 0, 1) := by decide +kernel
theorem dX3_bound_42 : decode cX3_bound 42 = .ok (.getfield 11, 3) := by decide +kernel
theorem dX3_bound_45 : decode cX3_bound 45 = .ok (.iload 4, 2) := by decide +kernel
theorem dX3_bound_47 : decode cX3_bound 47 = .ok (.iconst 3, 1) := by decide +kernel
theorem dX3_bound_48 : decode cX3_bound 48 = .ok (.imul, 1) := by decide +kernel
theorem dX3_bound_49 : decode cX3_bound 49 = .ok (.iconst 1, 1) := by decide +kernel
theorem dX3_bound_50 : decode cX3_bound 50 = .ok (.iadd, 1) := by decide +kernel
theorem dX3_bound_51 : decode cX3_bound 51 = .ok (.iaload, 1) := by decide +kernel
theorem dX3_bound_52 : decode cX3_bound 52 = .ok (.iload_n 3, 1) := by decide +kernel
theorem dX3_bound_53 : decode cX3_bound 53 = .ok (.imul, 1) := by decide +kernel
theorem dX3_bound_54 : decode cX3_bound 54 = .ok (.iadd, 1) := by decide +kernel
theorem dX3_bound_55 : decode cX3_bound 55 = .ok (.istore 5, 2) := by decide +kernel
theorem dX3_bound_57 : decode cX3_bound 57 = .ok (.bipush 10, 2) := by decide +kernel
theorem dX3_bound_59 : decode cX3_bound 59 = .ok (.aload_n 0, 1) := by decide +kernel
theorem dX3_bound_60 : decode cX3_bound 60 = .ok (.getfield 15, 3) := by decide +kernel
theorem dX3_bound_63 : decode cX3_bound 63 = .ok (.iload 4, 2) := by decide +kernel
theorem dX3_bound_65 : decode cX3_bound 65 = .ok (.iaload, 1) := by decide +kernel
theorem dX3_bound_66 : decode cX3_bound 66 = .ok (.iload_n 1, 1) := by decide +kernel
theorem dX3_bound_67 : decode cX3_bound 67 = .ok (.isub, 1) := by decide +kernel
theorem dX3_bound_68 : decode cX3_bound 68 = .ok (.imul, 1) := by decide +kernel
theorem dX3_bound_69 : decode cX3_bound 69 = .ok (.iload 5, 2) := by decide +kernel
theorem dX3_bound_71 : decode cX3_bound 71 = .ok (.isub, 1) := by decide +kernel
theorem dX3_bound_72 : decode cX3_bound 72 = .ok (.istore 6, 2) := by decide +kernel
theorem dX3_bound_74 : decode cX3_bound 74 = .ok (.bipush 10, 2) := by decide +kernel
theorem dX3_bound_76 : decode cX3_bound 76 = .ok (.aload_n 0, 1) := by decide +kernel
theorem dX3_bound_77 : decode cX3_bound 77 = .ok (.getfield 15, 3) := by decide +kernel
theorem dX3_bound_80 : decode cX3_bound 80 = .ok (.iload 4, 2) := by decide +kernel
theorem dX3_bound_82 : decode cX3_bound 82 = .ok (.iaload, 1) := by decide +kernel
theorem dX3_bound_83 : decode cX3_bound 83 = .ok (.iload_n 1, 1) := by decide +kernel
theorem dX3_bound_84 : decode cX3_bound 84 = .ok (.iadd, 1) := by decide +kernel
theorem dX3_bound_85 : decode cX3_bound 85 = .ok (.imul, 1) := by decide +kernel
theorem dX3_bound_86 : decode cX3_bound 86 = .ok (.bipush 9, 2) := by decide +kernel
theorem dX3_bound_88 : decode cX3_bound 88 = .ok (.iadd, 1) := by decide +kernel
theorem dX3_bound_89 : decode cX3_bound 89 = .ok (.iload 5, 2) := by decide +kernel
theorem dX3_bound_91 : decode cX3_bound 91 = .ok (.isub, 1) := by decide +kernel
theorem dX3_bound_92 : decode cX3_bound 92 = .ok (.istore 7, 2) := by decide +kernel
theorem dX3_bound_94 : decode cX3_bound 94 = .ok (.aload_n 0, 1) := by decide +kernel
theorem dX3_bound_95 : decode cX3_bound 95 = .ok (.aload_n 0, 1) := by decide +kernel
theorem dX3_bound_96 : decode cX3_bound 96 = .ok (.getfield 11, 3) := by decide +kernel
theorem dX3_bound_99 : decode cX3_bound 99 = .ok (.iload 4, 2) := by decide +kernel
theorem dX3_bound_101 : decode cX3_bound 101 = .ok (.iconst 3, 1) := by decide +kernel
theorem dX3_bound_102 : decode cX3_bound 102 = .ok (.imul, 1) := by decide +kernel
theorem dX3_bound_103 : decode cX3_bound 103 = .ok (.iconst 2, 1) := by decide +kernel
theorem dX3_bound_104 : decode cX3_bound 104 = .ok (.iadd, 1) := by decide +kernel
theorem dX3_bound_105 : decode cX3_bound 105 = .ok (.iaload, 1) := by decide +kernel
theorem dX3_bound_106 : decode cX3_bound 106 = .ok (.iload 6, 2) := by decide +kernel
theorem dX3_bound_108 : decode cX3_bound 108 = .ok (.iload 7, 2) := by decide +kernel
theorem dX3_bound_110 : decode cX3_bound 110 = .ok (.invokevirtual 66, 3) := by decide +kernel
theorem dX3_bound_113 : decode cX3_bound 113 = .ok (.iinc 4 1, 3) := by decide +kernel
theorem dX3_bound_116 : decode cX3_bound 116 = .ok (.goto (-102), 3) := by decide +kernel
theorem dX3_bound_119 : decode cX3_bound 119 = .ok (.return_, 1) := by decide +kernel
theorem dX3_narrow_0 : decode cX3_narrow 0 = .ok (.iload_n 1, 1) := by decide +kernel
theorem dX3_narrow_1 : decode cX3_narrow 1 = .ok (.ifCond .le 40, 3) := by decide +kernel
theorem dX3_narrow_4 : decode cX3_narrow 4 = .ok (.aload_n 0, 1) := by decide +kernel
theorem dX3_narrow_5 : decode cX3_narrow 5 = .ok (.aload_n 0, 1) := by decide +kernel
theorem dX3_narrow_6 : decode cX3_narrow 6 = .ok (.getfield 50, 3) := by decide +kernel
theorem dX3_narrow_9 : decode cX3_narrow 9 = .ok (.iload_n 2, 1) := by decide +kernel
theorem dX3_narrow_10 : decode cX3_narrow 10 = .ok (.ineg, 1) := by decide +kernel
theorem dX3_narrow_11 : decode cX3_narrow 11 = .ok (.iload_n 1, 1) := by decide +kernel
theorem dX3_narrow_12 : decode cX3_narrow 12 = .ok (.invokestatic 69, 3) := by decide +kernel
theorem dX3_narrow_15 : decode cX3_narrow 15 = .ok (.ineg, 1) := by decide +kernel
theorem dX3_narrow_16 : decode cX3_narrow 16 = .ok (.invokestatic 63, 3) := by decide +kernel
theorem dX3_narrow_19 : decode cX3_narrow 19 = .ok (.putfield 50, 3) := by decide +kernel
theorem dX3_narrow_22 : decode cX3_narrow 22 = .ok (.aload_n 0, 1) := by decide +kernel
theorem dX3_narrow_23 : decode cX3_narrow 23 = .ok (.aload_n 0, 1) := by decide +kernel
theorem dX3_narrow_24 : decode cX3_narrow 24 = .ok (.getfield 54, 3) := by decide +kernel
theorem dX3_narrow_27 : decode cX3_narrow 27 = .ok (.iload_n 3, 1) := by decide +kernel
theorem dX3_narrow_28 : decode cX3_narrow 28 = .ok (.iload_n 1, 1) := by decide +kernel
theorem dX3_narrow_29 : decode cX3_narrow 29 = .ok (.invokestatic 69, 3) := by decide +kernel
theorem dX3_narrow_32 : decode cX3_narrow 32 = .ok (.invokestatic 60, 3) := by decide +kernel
theorem dX3_narrow_35 : decode cX3_narrow 35 = .ok (.putfield 54, 3) := by decide +kernel
theorem dX3_narrow_38 : decode cX3_narrow 38 = .ok (.goto 16, 3) := by decide +kernel
theorem dX3_narrow_41 : decode cX3_narrow 41 = .ok (.iload_n 2, 1) := by decide +kernel
theorem dX3_narrow_42 : decode cX3_narrow 42 = .ok (.ifCond .gt 7, 3) := by decide +kernel
theorem dX3_narrow_45 : decode cX3_narrow 45 = .ok (.iload_n 3, 1) := by decide +kernel
theorem dX3_narrow_46 : decode cX3_narrow 46 = .ok (.ifCond .ge 8, 3) := by decide +kernel
theorem dX3_narrow_49 : decode cX3_narrow 49 = .ok (.aload_n 0, 1) := by decide +kernel
theorem dX3_narrow_50 : decode cX3_narrow 50 = .ok (.iconst (-1), 1) := by decide +kernel
theorem dX3_narrow_51 : decode cX3_narrow 51 = .ok (.putfield 54, 3) := by decide +kernel
theorem dX3_narrow_54 : decode cX3_narrow 54 = .ok (.return_, 1) := by decide +kernel
theorem dX4_init_0 : decode cX4_init 0 = .ok (.aload_n 0, 1) := by decide +kernel
theorem dX4_init_1 : decode cX4_init 1 = .ok (.invokespecial 3, 3) := by decide +kernel
theorem dX4_init_4 : decode cX4_init 4 = .ok (.aload_n 0, 1) := by decide +kernel
theorem dX4_init_5 : decode cX4_init 5 = .ok (.bipush 15, 2) := by decide +kernel
theorem dX4_init_7 : decode cX4_init 7 = .ok (.newarray .int, 2) := by decide +kernel
theorem dX4_init_9 : decode cX4_init 9 = .ok (.putfield 9, 3) := by decide +kernel
theorem dX4_init_12 : decode cX4_init 12 = .ok (.aload_n 0, 1) := by decide +kernel
theorem dX4_init_13 : decode cX4_init 13 = .ok (.bipush 15, 2) := by decide +kernel
theorem dX4_init_15 : decode cX4_init 15 = .ok (.newarray .int, 2) := by decide +kernel
theorem dX4_init_17 : decode cX4_init 17 = .ok (.putfield 15, 3) := by decide +kernel
theorem dX4_init_20 : decode cX4_init 20 = .ok (.aload_n 0, 1) := by decide +kernel
theorem dX4_init_21 : decode cX4_init 21 = .ok (.bipush 24, 2) := by decide +kernel
theorem dX4_init_23 : decode cX4_init 23 = .ok (.newarray .int, 2) := by decide +kernel
theorem dX4_init_25 : decode cX4_init 25 = .ok (.putfield 18, 3) := by decide +kernel
theorem dX4_init_28 : decode cX4_init 28 = .ok (.aload_n 0, 1) := by decide +kernel
theorem dX4_init_29 : decode cX4_init 29 = .ok (.iconst 3, 1) := by decide +kernel
theorem dX4_init_30 : decode cX4_init 30 = .ok (.newarray .int, 2) := by decide +kernel
theorem dX4_init_32 : decode cX4_init 32 = .ok (.putfield 21, 3) := by decide +kernel
theorem dX4_init_35 : decode cX4_init 35 = .ok (.aload_n 0, 1) := by decide +kernel
theorem dX4_init_36 : decode cX4_init 36 = .ok (.bipush 15, 2) := by decide +kernel
theorem dX4_init_38 : decode cX4_init 38 = .ok (.newarray .int, 2) := by decide +kernel
theorem dX4_init_40 : decode cX4_init 40 = .ok (.putfield 24, 3) := by decide +kernel
theorem dX4_init_43 : decode cX4_init 43 = .ok (.return_, 1) := by decide +kernel
theorem dX4_become_0 : decode cX4_become 0 = .ok (.aload_n 0, 1) := by decide +kernel
theorem dX4_become_1 : decode cX4_become 1 = .ok (.aload_n 1, 1) := by decide +kernel
theorem dX4_become_2 : decode cX4_become 2 = .ok (.getfield 27, 3) := by decide +kernel
theorem dX4_become_5 : decode cX4_become 5 = .ok (.putfield 27, 3) := by decide +kernel
theorem dX4_become_8 : decode cX4_become 8 = .ok (.aload_n 0, 1) := by decide +kernel
theorem dX4_become_9 : decode cX4_become 9 = .ok (.aload_n 1, 1) := by decide +kernel
theorem dX4_become_10 : decode cX4_become 10 = .ok (.getfield 31, 3) := by decide +kernel
theorem dX4_become_13 : decode cX4_become 13 = .ok (.putfield 31, 3) := by decide +kernel
theorem dX4_become_16 : decode cX4_become 16 = .ok (.aload_n 1, 1) := by decide +kernel
theorem dX4_become_17 : decode cX4_become 17 = .ok (.getfield 9, 3) := by decide +kernel
theorem dX4_become_20 : decode cX4_become 20 = .ok (.iconst 0, 1) := by decide +kernel
theorem dX4_become_21 : decode cX4_become 21 = .ok (.aload_n 0, 1) := by decide +kernel
theorem dX4_become_22 : decode cX4_become 22 = .ok (.getfield 9, 3) := by decide +kernel
theorem dX4_become_25 : decode cX4_become 25 = .ok (.iconst 0, 1) := by decide +kernel
theorem dX4_become_26 : decode cX4_become 26 = .ok (.bipush 15, 2) := by decide +kernel
theorem dX4_become_28 : decode cX4_become 28 = .ok (.invokestatic 34, 3) := by decide +kernel
theorem dX4_become_31 : decode cX4_become 31 = .ok (.aload_n 1, 1) := by decide +kernel
theorem dX4_become_32 : decode cX4_become 32 = .ok (.getfield 15, 3) := by decide +kernel
theorem dX4_become_35 : decode cX4_become 35 = .ok (.iconst 0, 1) := by decide +kernel
theorem dX4_become_36 : decode cX4_become 36 = .ok (.aload_n 0, 1) := by decide +kernel
theorem dX4_become_37 : decode cX4_become 37 = .ok (.getfield 15, 3) := by decide +kernel
theorem dX4_become_40 : decode cX4_become 40 = .ok (.iconst 0, 1) := by decide +kernel
theorem dX4_become_41 : decode cX4_become 41 = .ok (.bipush 15, 2) := by decide +kernel
theorem dX4_become_43 : decode cX4_become 43 = .ok (.invokestatic 34, 3) := by decide +kernel
theorem dX4_become_46 : decode cX4_become 46 = .ok (.aload_n 1, 1) := by decide +kernel
theorem dX4_become_47 : decode cX4_become 47 = .ok (.getfield 18, 3) := by decide +kernel
theorem dX4_become_50 : decode cX4_become 50 = .ok (.iconst 0, 1) := by decide +kernel
theorem dX4_become_51 : decode cX4_become 51 = .ok (.aload_n 0, 1) := by decide +kernel
theorem dX4_become_52 : decode cX4_become 52 = .ok (.getfield 18, 3) := by decide +kernel
theorem dX4_become_55 : decode cX4_become 55 = .ok (.iconst 0, 1) := by decide +kernel
theorem dX4_become_56 : decode cX4_become 56 = .ok (.bipush 24, 2) := by decide +kernel
theorem dX4_become_58 : decode cX4_become 58 = .ok (.invokestatic 34, 3) := by decide +kernel
theorem dX4_become_61 : decode cX4_become 61 = .ok (.aload_n 1, 1) := by decide +kernel
theorem dX4_become_62 : decode cX4_become 62 = .ok (.getfield 21, 3) := by decide +kernel
theorem dX4_become_65 : decode cX4_become 65 = .ok (.iconst 0, 1) := by decide +kernel
theorem dX4_become_66 : decode cX4_become 66 = .ok (.aload_n 0, 1) := by decide +kernel
theorem dX4_become_67 : decode cX4_become 67 = .ok (.getfield 21, 3) := by decide +kernel
theorem dX4_become_70 : decode cX4_become 70 = .ok (.iconst 0, 1) := by decide +kernel
theorem dX4_become_71 : decode cX4_become 71 = .ok (.iconst 3, 1) := by decide +kernel
theorem dX4_become_72 : decode cX4_become 72 = .ok (.invokestatic 34, 3) := by decide +kernel
theorem dX4_become_75 : decode cX4_become 75 = .ok (.return_, 1) := by decide +kernel
theorem dX4_amount_0 : decode cX4_amount 0 = .ok (.iload_n 3, 1) := by decide +kernel
theorem dX4_amount_1 : decode cX4_amount 1 = .ok (.ifCond .eq 16, 3) := by decide +kernel
theorem dX4_amount_4 : decode cX4_amount 4 = .ok (.aload_n 0, 1) := by decide +kernel
theorem dX4_amount_5 : decode cX4_amount 5 = .ok (.getfield 15, 3) := by decide +kernel
theorem dX4_amount_8 : decode cX4_amount 8 = .ok (.iload_n 1, 1) := by decide +kernel
theorem dX4_amount_9 : decode cX4_amount 9 = .ok (.iconst 3, 1) := by decide +kernel
theorem dX4_amount_10 : decode cX4_amount 10 = .ok (.imul, 1) := by decide +kernel
theorem dX4_amount_11 : decode cX4_amount 11 = .ok (.iload_n 2, 1) := by decide +kernel
theorem dX4_amount_12 : decode cX4_amount 12 = .ok (.iadd, 1) := by decide +kernel
theorem dX4_amount_13 : decode cX4_amount 13 = .ok (.iaload, 1) := by decide +kernel
theorem dX4_amount_14 : decode cX4_amount 14 = .ok (.goto 13, 3) := by decide +kernel
theorem dX4_amount_17 : decode cX4_amount 17 = .ok (.aload_n 0, 1) := by decide +kernel
theorem dX4_amount_18 : decode cX4_amount 18 = .ok (.getfield 9, 3) := by decide +kernel
theorem dX4_amount_21 : decode cX4_amount 21 = .ok (.iload_n 1, 1) := by decide +kernel
theorem dX4_amount_22 : decode cX4_amount 22 = .ok (.iconst 3, 1) := by decide +kernel
theorem dX4_amount_23 : decode cX4_amount 23 = .ok (.imul, 1) := by decide +kernel
theorem dX4_amount_24 : decode cX4_amount 24 = .ok (.iload_n 2, 1) := by decide +kernel
theorem dX4_amount_25 : decode cX4_amount 25 = .ok (.iadd, 1) := by decide +kernel
theorem dX4_amount_26 : decode cX4_amount 26 = .ok (.iaload, 1) := by decide +kernel
theorem dX4_amount_27 : decode cX4_amount 27 = .ok (.ireturn, 1) := by decide +kernel
theorem dX4_tell_0 : decode cX4_tell 0 = .ok (.iload 4, 2) := by decide +kernel
theorem dX4_tell_2 : decode cX4_tell 2 = .ok (.ifCond .eq 20, 3) := by decide +kernel
theorem dX4_tell_5 : decode cX4_tell 5 = .ok (.aload_n 0, 1) := by decide +kernel
theorem dX4_tell_6 : decode cX4_tell 6 = .ok (.getfield 15, 3) := by decide +kernel
theorem dX4_tell_9 : decode cX4_tell 9 = .ok (.iload_n 1, 1) := by decide +kernel
theorem dX4_tell_10 : decode cX4_tell 10 = .ok (.iconst 3, 1) := by decide +kernel
theorem dX4_tell_11 : decode cX4_tell 11 = .ok (.imul, 1) := by decide +kernel
theorem dX4_tell_12 : decode cX4_tell 12 = .ok (.iload_n 2, 1) := by decide +kernel
theorem dX4_tell_13 : decode cX4_tell 13 = .ok (.iadd, 1) := by decide +kernel
theorem dX4_tell_14 : decode cX4_tell 14 = .ok (.dup2, 1) := by decide +kernel
theorem dX4_tell_15 : decode cX4_tell 15 = .ok (.iaload, 1) := by decide +kernel
theorem dX4_tell_16 : decode cX4_tell 16 = .ok (.iload_n 3, 1) := by decide +kernel
theorem dX4_tell_17 : decode cX4_tell 17 = .ok (.iadd, 1) := by decide +kernel
theorem dX4_tell_18 : decode cX4_tell 18 = .ok (.iastore, 1) := by decide +kernel
theorem dX4_tell_19 : decode cX4_tell 19 = .ok (.goto 17, 3) := by decide +kernel
theorem dX4_tell_22 : decode cX4_tell 22 = .ok (.aload_n 0, 1) := by decide +kernel
theorem dX4_tell_23 : decode cX4_tell 23 = .ok (.getfield 9, 3) := by decide +kernel
theorem dX4_tell_26 : decode cX4_tell 26 = .ok (.iload_n 1, 1) := by decide +kernel
theorem dX4_tell_27 : decode cX4_tell 27 = .ok (.iconst 3, 1) := by decide +kernel
theorem dX4_tell_28 : decode cX4_tell 28 = .ok (.imul, 1) := by decide +kernel
theorem dX4_tell_29 : decode cX4_tell 29 = .ok (.iload_n 2, 1) := by decide +kernel
theorem dX4_tell_30 : decode cX4_tell 30 = .ok (.iadd, 1) := by decide +kernel
theorem dX4_tell_31 : decode cX4_tell 31 = .ok (.dup2, 1) := by decide +kernel
theorem dX4_tell_32 : decode cX4_tell 32 = .ok (.iaload, 1) := by decide +kernel
theorem dX4_tell_33 : decode cX4_tell 33 = .ok (.iload_n 3, 1) := by decide +kernel
theorem dX4_tell_34 : decode cX4_tell 34 = .ok (.iadd, 1) := by decide +kernel
theorem dX4_tell_35 : decode cX4_tell 35 = .ok (.iastore, 1) := by decide +kernel
theorem dX4_tell_36 : decode cX4_tell 36 = .ok (.aload_n 0, 1) := by decide +kernel
theorem dX4_tell_37 : decode cX4_tell 37 = .ok (.getfield 21, 3) := by decide +kernel
theorem dX4_tell_40 : decode cX4_tell 40 = .ok (.iload_n 2, 1) := by decide +kernel
theorem dX4_tell_41 : decode cX4_tell 41 = .ok (.dup2, 1) := by decide +kernel
theorem dX4_tell_42 : decode cX4_tell 42 = .ok (.iaload, 1) := by decide +kernel
theorem dX4_tell_43 : decode cX4_tell 43 = .ok (.iload_n 3, 1) := by decide +kernel
theorem dX4_tell_44 : decode cX4_tell 44 = .ok (.iadd, 1) := by decide +kernel
theorem dX4_tell_45 : decode cX4_tell 45 = .ok (.iastore, 1) := by decide +kernel
theorem dX4_tell_46 : decode cX4_tell 46 = .ok (.return_, 1) := by decide +kernel
theorem dX4_push_0 : decode cX4_push 0 = .ok (.lconst 0, 1) := by decide +kernel
theorem dX4_push_1 : decode cX4_push 1 = .ok (.lstore_n 3, 1) := by decide +kernel
theorem dX4_push_2 : decode cX4_push 2 = .ok (.iconst 0, 1) := by decide +kernel
theorem dX4_push_3 : decode cX4_push 3 = .ok (.istore 5, 2) := by decide +kernel
theorem dX4_push_5 : decode cX4_push 5 = .ok (.iload 5, 2) := by decide +kernel
theorem dX4_push_7 : decode cX4_push 7 = .ok (.iconst 3, 1) := by decide +kernel
theorem dX4_push_8 : decode cX4_push 8 = .ok (.if_icmp .ge 24, 3) := by decide +kernel
theorem dX4_push_11 : decode cX4_push 11 = .ok (.lload_n 3, 1) := by decide +kernel
theorem dX4_push_12 : decode cX4_push 12 = .ok (.aload_n 0, 1) := by decide +kernel
theorem dX4_push_13 : decode cX4_push 13 = .ok (.getfield 9, 3) := by decide +kernel
theorem dX4_push_16 : decode cX4_push 16 = .ok (.iload_n 2, 1) := by decide +kernel
theorem dX4_push_17 : decode cX4_push 17 = .ok (.iconst 3, 1) := by decide +kernel
theorem dX4_push_18 : decode cX4_push 18 = .ok (.imul, 1) := by decide +kernel
theorem dX4_push_19 : decode cX4_push 19 = .ok (.iload 5, 2) := by decide +kernel
theorem dX4_push_21 : decode cX4_push 21 = .ok (.iadd, 1) := by decide +kernel
theorem dX4_push_22 : decode cX4_push 22 = .ok (.iaload, 1) := by decide +kernel
theorem dX4_push_23 : decode cX4_push 23 = .ok (.i2l, 1) := by decide +kernel
theorem dX4_push_24 : decode cX4_push 24 = .ok (.ladd, 1) := by decide +kernel
theorem dX4_push_25 : decode cX4_push 25 = .ok (.lstore_n 3, 1) := by decide +kernel
theorem dX4_push_26 : decode cX4_push 26 = .ok (.iinc 5 1, 3) := by decide +kernel
theorem dX4_push_29 : decode cX4_push 29 = .ok (.goto (-24), 3) := by decide +kernel
theorem dX4_push_32 : decode cX4_push 32 = .ok (.ldc2_w 40, 3) := by decide +kernel
theorem dX4_push_35 : decode cX4_push 35 = .ok (.lload_n 3, 1) := by decide +kernel
theorem dX4_push_36 : decode cX4_push 36 = .ok (.ldc2_w 42, 3) := by decide +kernel
theorem dX4_push_39 : decode cX4_push 39 = .ok (.lmul, 1) := by decide +kernel
theorem dX4_push_40 : decode cX4_push 40 = .ok (.aload_n 1, 1) := by decide +kernel
theorem dX4_push_41 : decode cX4_push 41 = .ok (.iload_n 2, 1) := by decide +kernel
theorem dX4_push_42 : decode cX4_push 42 = .ok (.invokevirtual 44, 3) := by decide +kernel
theorem dX4_push_45 : decode cX4_push 45 = .ok (.ldiv, 1) := by decide +kernel
theorem dX4_push_46 : decode cX4_push 46 = .ok (.invokestatic 50, 3) := by decide +kernel
theorem dX4_push_49 : decode cX4_push 49 = .ok (.l2i, 1) := by decide +kernel
theorem dX4_push_50 : decode cX4_push 50 = .ok (.ireturn, 1) := by decide +kernel
theorem dX4_total_0 : decode cX4_total 0 = .ok (.iload_n 3, 1) := by decide +kernel
theorem dX4_total_1 : decode cX4_total 1 = .ok (.ifCond .ne 10, 3) := by decide +kernel
theorem dX4_total_4 : decode cX4_total 4 = .ok (.aload_n 0, 1) := by decide +kernel
theorem dX4_total_5 : decode cX4_total 5 = .ok (.getfield 21, 3) := by decide +kernel
theorem dX4_total_8 : decode cX4_total 8 = .ok (.iload_n 2, 1) := by decide +kernel
theorem dX4_total_9 : decode cX4_total 9 = .ok (.iaload, 1) := by decide +kernel
theorem dX4_total_10 : decode cX4_total 10 = .ok (.ireturn, 1) := by decide +kernel
theorem dX4_total_11 : decode cX4_total 11 = .ok (.iconst 0, 1) := by decide +kernel
theorem dX4_total_12 : decode cX4_total 12 = .ok (.istore 4, 2) := by decide +kernel
theorem dX4_total_14 : decode cX4_total 14 = .ok (.iload_n 3, 1) := by decide +kernel
theorem dX4_total_15 : decode cX4_total 15 = .ok (.iconst 2, 1) := by decide +kernel
theorem dX4_total_16 : decode cX4_total 16 = .ok (.if_icmp .eq 8, 3) := by decide +kernel
theorem dX4_total_19 : decode cX4_total 19 = .ok (.iload_n 3, 1) := by decide +kernel
theorem dX4_total_20 : decode cX4_total 20 = .ok (.iconst 3, 1) := by decide +kernel
theorem dX4_total_21 : decode cX4_total 21 = .ok (.if_icmp .ne 46, 3) := by decide +kernel
theorem dX4_total_24 : decode cX4_total 24 = .ok (.iconst 0, 1) := by decide +kernel
theorem dX4_total_25 : decode cX4_total 25 = .ok (.istore 5, 2) := by decide +kernel
theorem dX4_total_27 : decode cX4_total 27 = .ok (.iload 5, 2) := by decide +kernel
theorem dX4_total_29 : decode cX4_total 29 = .ok (.aload_n 1, 1) := by decide +kernel
theorem dX4_total_30 : decode cX4_total 30 = .ok (.getfield 56, 3) := by decide +kernel
theorem dX4_total_33 : decode cX4_total 33 = .ok (.if_icmp .ge 31, 3) := by decide +kernel
theorem dX4_total_36 : decode cX4_total 36 = .ok (.iload 4, 2) := by decide +kernel
theorem dX4_total_38 : decode cX4_total 38 = .ok (.aload_n 0, 1) := by decide +kernel
theorem dX4_total_39 : decode cX4_total 39 = .ok (.iload 5, 2) := by decide +kernel
theorem dX4_total_41 : decode cX4_total 41 = .ok (.iload_n 2, 1) := by decide +kernel
theorem dX4_total_42 : decode cX4_total 42 = .ok (.iload_n 3, 1) := by decide +kernel
theorem dX4_total_43 : decode cX4_total 43 = .ok (.iconst 3, 1) := by decide +kernel
theorem dX4_total_44 : decode cX4_total 44 = .ok (.if_icmp .ne 7, 3) := by decide +kernel
theorem dX4_total_47 : decode cX4_total 47 = .ok (.iconst 1, 1) := by decide +kernel
theorem dX4_total_48 : decode cX4_total 48 = .ok (.goto 4, 3) := by decide +kernel
theorem dX4_total_51 : decode cX4_total 51 = .ok (.iconst 0, 1) := by decide +kernel
theorem dX4_total_52 : decode cX4_total 52 = .ok (.invokevirtual 59, 3) := by decide +kernel
theorem dX4_total_55 : decode cX4_total 55 = .ok (.iadd, 1) := by decide +kernel
theorem dX4_total_56 : decode cX4_total 56 = .ok (.istore 4, 2) := by decide +kernel
theorem dX4_total_58 : decode cX4_total 58 = .ok (.iinc 5 1, 3) := by decide +kernel
theorem dX4_total_61 : decode cX4_total 61 = .ok (.goto (-34), 3) := by decide +kernel
theorem dX4_total_64 : decode cX4_total 64 = .ok (.iload 4, 2) := by decide +kernel
theorem dX4_total_66 : decode cX4_total 66 = .ok (.ireturn, 1) := by decide +kernel
theorem dX4_total_67 : decode cX4_total 67 = .ok (.iconst 0, 1) := by decide +kernel
theorem dX4_total_68 : decode cX4_total 68 = .ok (.istore 5, 2) := by decide +kernel
theorem dX4_total_70 : decode cX4_total 70 = .ok (.iload 5, 2) := by decide +kernel
theorem dX4_total_72 : decode cX4_total 72 = .ok (.aload_n 1, 1) := by decide +kernel
theorem dX4_total_73 : decode cX4_total 73 = .ok (.getfield 63, 3) := by decide +kernel
theorem dX4_total_76 : decode cX4_total 76 = .ok (.if_icmp .ge 61, 3) := by decide +kernel
theorem dX4_total_79 : decode cX4_total 79 = .ok (.aload_n 1, 1) := by decide +kernel
theorem dX4_total_80 : decode cX4_total 80 = .ok (.getfield 66, 3) := by decide +kernel
theorem dX4_total_83 : decode cX4_total 83 = .ok (.iload 5, 2) := by decide +kernel
theorem dX4_total_85 : decode cX4_total 85 = .ok (.iaload, 1) := by decide +kernel
theorem dX4_total_86 : decode cX4_total 86 = .ok (.ifCond .le 7, 3) := by decide +kernel
theorem dX4_total_89 : decode cX4_total 89 = .ok (.iconst 1, 1) := by decide +kernel
theorem dX4_total_90 : decode cX4_total 90 = .ok (.goto 4, 3) := by decide +kernel
theorem dX4_total_93 : decode cX4_total 93 = .ok (.iconst 0, 1) := by decide +kernel
theorem dX4_total_94 : decode cX4_total 94 = .ok (.istore 6, 2) := by decide +kernel
theorem dX4_total_96 : decode cX4_total 96 = .ok (.iload 4, 2) := by decide +kernel
theorem dX4_total_98 : decode cX4_total 98 = .ok (.iload 6, 2) := by decide +kernel
theorem dX4_total_100 : decode cX4_total 100 = .ok (.iload_n 3, 1) := by decide +kernel
theorem dX4_total_101 : decode cX4_total 101 = .ok (.iconst 4, 1) := by decide +kernel
theorem dX4_total_102 : decode cX4_total 102 = .ok (.if_icmp .ne 7, 3) := by decide +kernel
theorem dX4_total_105 : decode cX4_total 105 = .ok (.iconst 1, 1) := by decide +kernel
theorem dX4_total_106 : decode cX4_total 106 = .ok (.goto 4, 3) := by decide +kernel
theorem dX4_total_109 : decode cX4_total 109 = .ok (.iconst 0, 1) := by decide +kernel
theorem dX4_total_110 : decode cX4_total 110 = .ok (.if_icmp .ne 17, 3) := by decide +kernel
theorem dX4_total_113 : decode cX4_total 113 = .ok (.aload_n 0, 1) := by decide +kernel
theorem dX4_total_114 : decode cX4_total 114 = .ok (.getfield 18, 3) := by decide +kernel
theorem dX4_total_117 : decode cX4_total 117 = .ok (.iload 5, 2) := by decide +kernel
theorem dX4_total_119 : decode cX4_total 119 = .ok (.iconst 3, 1) := by decide +kernel
theorem dX4_total_120 : decode cX4_total 120 = .ok (.imul, 1) := by decide +kernel
theorem dX4_total_121 : decode cX4_total 121 = .ok (.iload_n 2, 1) := by decide +kernel
theorem dX4_total_122 : decode cX4_total 122 = .ok (.iadd, 1) := by decide +kernel
theorem dX4_total_123 : decode cX4_total 123 = .ok (.iaload, 1) := by decide +kernel
theorem dX4_total_124 : decode cX4_total 124 = .ok (.goto 4, 3) := by decide +kernel
theorem dX4_total_127 : decode cX4_total 127 = .ok (.iconst 0, 1) := by decide +kernel
theorem dX4_total_128 : decode cX4_total 128 = .ok (.iadd, 1) := by decide +kernel
theorem dX4_total_129 : decode cX4_total 129 = .ok (.istore 4, 2) := by decide +kernel
theorem dX4_total_131 : decode cX4_total 131 = .ok (.iinc 5 1, 3) := by decide +kernel
theorem dX4_total_134 : decode cX4_total 134 = .ok (.goto (-64), 3) := by decide +kernel
theorem dX4_total_137 : decode cX4_total 137 = .ok (.iload 4, 2) := by decide +kernel
theorem dX4_total_139 : decode cX4_total 139 = .ok (.ireturn, 1) := by decide +kernel
theorem dX4_pass_0 : decode cX4_pass 0 = .ok (.aload_n 0, 1) := by decide +kernel
theorem dX4_pass_1 : decode cX4_pass 1 = .ok (.aload_n 1, 1) := by decide +kernel
theorem dX4_pass_2 : decode cX4_pass 2 = .ok (.invokevirtual 69, 3) := by decide +kernel
theorem dX4_pass_5 : decode cX4_pass 5 = .ok (.aload_n 0, 1) := by decide +kernel
theorem dX4_pass_6 : decode cX4_pass 6 = .ok (.aload_n 1, 1) := by decide +kernel
theorem dX4_pass_7 : decode cX4_pass 7 = .ok (.invokevirtual 73, 3) := by decide +kernel
theorem dX4_pass_10 : decode cX4_pass 10 = .ok (.aload_n 0, 1) := by decide +kernel
theorem dX4_pass_11 : decode cX4_pass 11 = .ok (.getfield 9, 3) := by decide +kernel
theorem dX4_pass_14 : decode cX4_pass 14 = .ok (.iconst 0, 1) := by decide +kernel
theorem dX4_pass_15 : decode cX4_pass 15 = .ok (.aload_n 0, 1) := by decide +kernel
theorem dX4_pass_16 : decode cX4_pass 16 = .ok (.getfield 24, 3) := by decide +kernel
theorem dX4_pass_19 : decode cX4_pass 19 = .ok (.iconst 0, 1) := by decide +kernel
theorem dX4_pass_20 : decode cX4_pass 20 = .ok (.bipush 15, 2) := by decide +kernel
theorem dX4_pass_22 : decode cX4_pass 22 = .ok (.invokestatic 34, 3) := by decide +kernel
theorem dX4_pass_25 : decode cX4_pass 25 = .ok (.iconst 0, 1) := by decide +kernel
theorem dX4_pass_26 : decode cX4_pass 26 = .ok (.istore_n 2, 1) := by decide +kernel
theorem dX4_pass_27 : decode cX4_pass 27 = .ok (.iload_n 2, 1) := by decide +kernel
theorem dX4_pass_28 : decode cX4_pass 28 = .ok (.aload_n 1, 1) := by decide +kernel
theorem dX4_pass_29 : decode cX4_pass 29 = .ok (.getfield 76, 3) := by decide +kernel
theorem dX4_pass_32 : decode cX4_pass 32 = .ok (.if_icmp .ge 67, 3) := by decide +kernel
theorem dX4_pass_35 : decode cX4_pass 35 = .ok (.aload_n 1, 1) := by decide +kernel
theorem dX4_pass_36 : decode cX4_pass 36 = .ok (.getfield 79, 3) := by decide +kernel
theorem dX4_pass_39 : decode cX4_pass 39 = .ok (.iload_n 2, 1) := by decide +kernel
theorem dX4_pass_40 : decode cX4_pass 40 = .ok (.ishr, 1) := by decide +kernel
theorem dX4_pass_41 : decode cX4_pass 41 = .ok (.iconst 1, 1) := by decide +kernel
theorem dX4_pass_42 : decode cX4_pass 42 = .ok (.iand, 1) := by decide +kernel
theorem dX4_pass_43 : decode cX4_pass 43 = .ok (.iconst 1, 1) := by decide +kernel
theorem dX4_pass_44 : decode cX4_pass 44 = .ok (.if_icmp .ne 49, 3) := by decide +kernel
theorem dX4_pass_47 : decode cX4_pass 47 = .ok (.aload_n 0, 1) := by decide +kernel
theorem dX4_pass_48 : decode cX4_pass 48 = .ok (.aload_n 1, 1) := by decide +kernel
theorem dX4_pass_49 : decode cX4_pass 49 = .ok (.aload_n 1, 1) := by decide +kernel
theorem dX4_pass_50 : decode cX4_pass 50 = .ok (.getfield 82, 3) := by decide +kernel
theorem dX4_pass_53 : decode cX4_pass 53 = .ok (.iload_n 2, 1) := by decide +kernel
theorem dX4_pass_54 : decode cX4_pass 54 = .ok (.iaload, 1) := by decide +kernel
theorem dX4_pass_55 : decode cX4_pass 55 = .ok (.aload_n 1, 1) := by decide +kernel
theorem dX4_pass_56 : decode cX4_pass 56 = .ok (.getfield 85, 3) := by decide +kernel
theorem dX4_pass_59 : decode cX4_pass 59 = .ok (.iload_n 2, 1) := by decide +kernel
theorem dX4_pass_60 : decode cX4_pass 60 = .ok (.iaload, 1) := by decide +kernel
theorem dX4_pass_61 : decode cX4_pass 61 = .ok (.aload_n 1, 1) := by decide +kernel
theorem dX4_pass_62 : decode cX4_pass 62 = .ok (.getfield 88, 3) := by decide +kernel
theorem dX4_pass_65 : decode cX4_pass 65 = .ok (.iload_n 2, 1) := by decide +kernel
theorem dX4_pass_66 : decode cX4_pass 66 = .ok (.iaload, 1) := by decide +kernel
theorem dX4_pass_67 : decode cX4_pass 67 = .ok (.invokevirtual 91, 3) := by decide +kernel
theorem dX4_pass_70 : decode cX4_pass 70 = .ok (.aload_n 0, 1) := by decide +kernel
theorem dX4_pass_71 : decode cX4_pass 71 = .ok (.aload_n 1, 1) := by decide +kernel
theorem dX4_pass_72 : decode cX4_pass 72 = .ok (.aload_n 1, 1) := by decide +kernel
theorem dX4_pass_73 : decode cX4_pass 73 = .ok (.getfield 85, 3) := by decide +kernel
theorem dX4_pass_76 : decode cX4_pass 76 = .ok (.iload_n 2, 1) := by decide +kernel
theorem dX4_pass_77 : decode cX4_pass 77 = .ok (.iaload, 1) := by decide +kernel
theorem dX4_pass_78 : decode cX4_pass 78 = .ok (.aload_n 1, 1) := by decide +kernel
theorem dX4_pass_79 : decode cX4_pass 79 = .ok (.getfield 82, 3) := by decide +kernel
theorem dX4_pass_82 : decode cX4_pass 82 = .ok (.iload_n 2, 1) := by decide +kernel
theorem dX4_pass_83 : decode cX4_pass 83 = .ok (.iaload, 1) := by decide +kernel
theorem dX4_pass_84 : decode cX4_pass 84 = .ok (.aload_n 1, 1) := by decide +kernel
theorem dX4_pass_85 : decode cX4_pass 85 = .ok (.getfield 88, 3) := by decide +kernel
theorem dX4_pass_88 : decode cX4_pass 88 = .ok (.iload_n 2, 1) := by decide +kernel
theorem dX4_pass_89 : decode cX4_pass 89 = .ok (.iaload, 1) := by decide +kernel
theorem dX4_pass_90 : decode cX4_pass 90 = .ok (.invokevirtual 91, 3) := by decide +kernel
theorem dX4_pass_93 : decode cX4_pass 93 = .ok (.iinc 2 1, 3) := by decide +kernel
theorem dX4_pass_96 : decode cX4_pass 96 = .ok (.goto (-69), 3) := by decide +kernel
theorem dX4_pass_99 : decode cX4_pass 99 = .ok (.iconst 0, 1) := by decide +kernel
theorem dX4_pass_100 : decode cX4_pass 100 = .ok (.istore_n 2, 1) := by decide +kernel
theorem dX4_pass_101 : decode cX4_pass 101 = .ok (.iload_n 2, 1) := by decide +kernel
theorem dX4_pass_102 : decode cX4_pass 102 = .ok (.aload_n 1, 1) := by decide +kernel
theorem dX4_pass_103 : decode cX4_pass 103 = .ok (.getfield 63, 3) := by decide +kernel
theorem dX4_pass_106 : decode cX4_pass 106 = .ok (.if_icmp .ge 27, 3) := by decide +kernel
theorem dX4_pass_109 : decode cX4_pass 109 = .ok (.aload_n 1, 1) := by decide +kernel
theorem dX4_pass_110 : decode cX4_pass 110 = .ok (.getfield 95, 3) := by decide +kernel
theorem dX4_pass_113 : decode cX4_pass 113 = .ok (.iload_n 2, 1) := by decide +kernel
theorem dX4_pass_114 : decode cX4_pass 114 = .ok (.ishr, 1) := by decide +kernel
theorem dX4_pass_115 : decode cX4_pass 115 = .ok (.iconst 1, 1) := by decide +kernel
theorem dX4_pass_116 : decode cX4_pass 116 = .ok (.iand, 1) := by decide +kernel
theorem dX4_pass_117 : decode cX4_pass 117 = .ok (.iconst 1, 1) := by decide +kernel
theorem dX4_pass_118 : decode cX4_pass 118 = .ok (.if_icmp .ne 9, 3) := by decide +kernel
theorem dX4_pass_121 : decode cX4_pass 121 = .ok (.aload_n 0, 1) := by decide +kernel
theorem dX4_pass_122 : decode cX4_pass 122 = .ok (.aload_n 1, 1) := by decide +kernel
theorem dX4_pass_123 : decode cX4_pass 123 = .ok (.iload_n 2, 1) := by decide +kernel
theorem dX4_pass_124 : decode cX4_pass 124 = .ok (.invokevirtual 98, 3) := by decide +kernel
theorem dX4_pass_127 : decode cX4_pass 127 = .ok (.iinc 2 1, 3) := by decide +kernel
theorem dX4_pass_130 : decode cX4_pass 130 = .ok (.goto (-29), 3) := by decide +kernel
theorem dX4_pass_133 : decode cX4_pass 133 = .ok (.iconst 0, 1) := by decide +kernel
theorem dX4_pass_134 : decode cX4_pass 134 = .ok (.istore_n 2, 1) := by decide +kernel
theorem dX4_pass_135 : decode cX4_pass 135 = .ok (.iload_n 2, 1) := by decide +kernel
theorem dX4_pass_136 : decode cX4_pass 136 = .ok (.aload_n 1, 1) := by decide +kernel
theorem dX4_pass_137 : decode cX4_pass 137 = .ok (.getfield 63, 3) := by decide +kernel
theorem dX4_pass_140 : decode cX4_pass 140 = .ok (.if_icmp .ge 27, 3) := by decide +kernel
theorem dX4_pass_143 : decode cX4_pass 143 = .ok (.aload_n 0, 1) := by decide +kernel
theorem dX4_pass_144 : decode cX4_pass 144 = .ok (.getfield 31, 3) := by decide +kernel
theorem dX4_pass_147 : decode cX4_pass 147 = .ok (.iload_n 2, 1) := by decide +kernel
theorem dX4_pass_148 : decode cX4_pass 148 = .ok (.ishr, 1) := by decide +kernel
theorem dX4_pass_149 : decode cX4_pass 149 = .ok (.iconst 1, 1) := by decide +kernel
theorem dX4_pass_150 : decode cX4_pass 150 = .ok (.iand, 1) := by decide +kernel
theorem dX4_pass_151 : decode cX4_pass 151 = .ok (.iconst 1, 1) := by decide +kernel
theorem dX4_pass_152 : decode cX4_pass 152 = .ok (.if_icmp .ne 9, 3) := by decide +kernel
theorem dX4_pass_155 : decode cX4_pass 155 = .ok (.aload_n 0, 1) := by decide +kernel
theorem dX4_pass_156 : decode cX4_pass 156 = .ok (.aload_n 1, 1) := by decide +kernel
theorem dX4_pass_157 : decode cX4_pass 157 = .ok (.iload_n 2, 1) := by decide +kernel
theorem dX4_pass_158 : decode cX4_pass 158 = .ok (.invokevirtual 102, 3) := by decide +kernel
theorem dX4_pass_161 : decode cX4_pass 161 = .ok (.iinc 2 1, 3) := by decide +kernel
theorem dX4_pass_164 : decode cX4_pass 164 = .ok (.goto (-29), 3) := by decide +kernel
theorem dX4_pass_167 : decode cX4_pass 167 = .ok (.aload_n 0, 1) := by decide +kernel
theorem dX4_pass_168 : decode cX4_pass 168 = .ok (.dup, 1) := by decide +kernel
theorem dX4_pass_169 : decode cX4_pass 169 = .ok (.getfield 27, 3) := by decide +kernel
theorem dX4_pass_172 : decode cX4_pass 172 = .ok (.iconst 1, 1) := by decide +kernel
theorem dX4_pass_173 : decode cX4_pass 173 = .ok (.iadd, 1) := by decide +kernel
theorem dX4_pass_174 : decode cX4_pass 174 = .ok (.putfield 27, 3) := by decide +kernel
theorem dX4_pass_177 : decode cX4_pass 177 = .ok (.return_, 1) := by decide +kernel
theorem dX4_giveOff_0 : decode cX4_giveOff 0 = .ok (.iconst 0, 1) := by decide +kernel
theorem dX4_giveOff_1 : decode cX4_giveOff 1 = .ok (.istore_n 2, 1) := by decide +kernel
theorem dX4_giveOff_2 : decode cX4_giveOff 2 = .ok (.iload_n 2, 1) := by decide +kernel
theorem dX4_giveOff_3 : decode cX4_giveOff 3 = .ok (.aload_n 1, 1) := by decide +kernel
theorem dX4_giveOff_4 : decode cX4_giveOff 4 = .ok (.getfield 56, 3) := by decide +kernel
theorem dX4_giveOff_7 : decode cX4_giveOff 7 = .ok (.if_icmp .ge 78, 3) := by decide +kernel
theorem dX4_giveOff_10 : decode cX4_giveOff 10 = .ok (.aload_n 1, 1) := by decide +kernel
theorem dX4_giveOff_11 : decode cX4_giveOff 11 = .ok (.iload_n 2, 1) := by decide +kernel
theorem dX4_giveOff_12 : decode cX4_giveOff 12 = .ok (.invokevirtual 105, 3) := by decide +kernel
theorem dX4_giveOff_15 : decode cX4_giveOff 15 = .ok (.istore_n 3, 1) := by decide +kernel
theorem dX4_giveOff_16 : decode cX4_giveOff 16 = .ok (.iload_n 2, 1) := by decide +kernel
theorem dX4_giveOff_17 : decode cX4_giveOff 17 = .ok (.iconst 3, 1) := by decide +kernel
theorem dX4_giveOff_18 : decode cX4_giveOff 18 = .ok (.imul, 1) := by decide +kernel
theorem dX4_giveOff_19 : decode cX4_giveOff 19 = .ok (.istore 4, 2) := by decide +kernel
theorem dX4_giveOff_21 : decode cX4_giveOff 21 = .ok (.iload 4, 2) := by decide +kernel
theorem dX4_giveOff_23 : decode cX4_giveOff 23 = .ok (.iload_n 2, 1) := by decide +kernel
theorem dX4_giveOff_24 : decode cX4_giveOff 24 = .ok (.iconst 3, 1) := by decide +kernel
theorem dX4_giveOff_25 : decode cX4_giveOff 25 = .ok (.imul, 1) := by decide +kernel
theorem dX4_giveOff_26 : decode cX4_giveOff 26 = .ok (.iconst 3, 1) := by decide +kernel
theorem dX4_giveOff_27 : decode cX4_giveOff 27 = .ok (.iadd, 1) := by decide +kernel
theorem dX4_giveOff_28 : decode cX4_giveOff 28 = .ok (.if_icmp .ge 51, 3) := by decide +kernel
theorem dX4_giveOff_31 : decode cX4_giveOff 31 = .ok (.aload_n 0, 1) := by decide +kernel
theorem dX4_giveOff_32 : decode cX4_giveOff 32 = .ok (.getfield 15, 3) := by decide +kernel
theorem dX4_giveOff_35 : decode cX4_giveOff 35 = .ok (.iload 4, 2) := by decide +kernel
theorem dX4_giveOff_37 : decode cX4_giveOff 37 = .ok (.iaload, 1) := by decide +kernel
theorem dX4_giveOff_38 : decode cX4_giveOff 38 = .ok (.i2l, 1) := by decide +kernel
theorem dX4_giveOff_39 : decode cX4_giveOff 39 = .ok (.iload_n 3, 1) := by decide +kernel
theorem dX4_giveOff_40 : decode cX4_giveOff 40 = .ok (.i2l, 1) := by decide +kernel
theorem dX4_giveOff_41 : decode cX4_giveOff 41 = .ok (.lmul, 1) := by decide +kernel
theorem dX4_giveOff_42 : decode cX4_giveOff 42 = .ok (.ldc2_w 109, 3) := by decide +kernel
theorem dX4_giveOff_45 : decode cX4_giveOff 45 = .ok (.ldiv, 1) := by decide +kernel
theorem dX4_giveOff_46 : decode cX4_giveOff 46 = .ok (.l2i, 1) := by decide +kernel
theorem dX4_giveOff_47 : decode cX4_giveOff 47 = .ok (.istore 5, 2) := by decide +kernel
theorem dX4_giveOff_49 : decode cX4_giveOff 49 = .ok (.aload_n 0, 1) := by decide +kernel
theorem dX4_giveOff_50 : decode cX4_giveOff 50 = .ok (.getfield 15, 3) := by decide +kernel
theorem dX4_giveOff_53 : decode cX4_giveOff 53 = .ok (.iload 4, 2) := by decide +kernel
theorem dX4_giveOff_55 : decode cX4_giveOff 55 = .ok (.dup2, 1) := by decide +kernel
theorem dX4_giveOff_56 : decode cX4_giveOff 56 = .ok (.iaload, 1) := by decide +kernel
theorem dX4_giveOff_57 : decode cX4_giveOff 57 = .ok (.iload 5, 2) := by decide +kernel
theorem dX4_giveOff_59 : decode cX4_giveOff 59 = .ok (.isub, 1) := by decide +kernel
theorem dX4_giveOff_60 : decode cX4_giveOff 60 = .ok (.iastore, 1) := by decide +kernel
theorem dX4_giveOff_61 : decode cX4_giveOff 61 = .ok (.aload_n 0, 1) := by decide +kernel
theorem dX4_giveOff_62 : decode cX4_giveOff 62 = .ok (.getfield 9, 3) := by decide +kernel
theorem dX4_giveOff_65 : decode cX4_giveOff 65 = .ok (.iload 4, 2) := by decide +kernel
theorem dX4_giveOff_67 : decode cX4_giveOff 67 = .ok (.dup2, 1) := by decide +kernel
theorem dX4_giveOff_68 : decode cX4_giveOff 68 = .ok (.iaload, 1) := by decide +kernel
theorem dX4_giveOff_69 : decode cX4_giveOff 69 = .ok (.iload 5, 2) := by decide +kernel
theorem dX4_giveOff_71 : decode cX4_giveOff 71 = .ok (.iadd, 1) := by decide +kernel
theorem dX4_giveOff_72 : decode cX4_giveOff 72 = .ok (.iastore, 1) := by decide +kernel
theorem dX4_giveOff_73 : decode cX4_giveOff 73 = .ok (.iinc 4 1, 3) := by decide +kernel
theorem dX4_giveOff_76 : decode cX4_giveOff 76 = .ok (.goto (-55), 3) := by decide +kernel
theorem dX4_giveOff_79 : decode cX4_giveOff 79 = .ok (.iinc 2 1, 3) := by decide +kernel
theorem dX4_giveOff_82 : decode cX4_giveOff 82 = .ok (.goto (-80), 3) := by decide +kernel
theorem dX4_giveOff_85 : decode cX4_giveOff 85 = .ok (.return_, 1) := by decide +kernel
theorem dX4_leakIn_0 : decode cX4_leakIn 0 = .ok (.iconst 0, 1) := by decide +kernel
theorem dX4_leakIn_1 : decode cX4_leakIn 1 = .ok (.istore_n 2, 1) := by decide +kernel
theorem dX4_leakIn_2 : decode cX4_leakIn 2 = .ok (.iload_n 2, 1) := by decide +kernel
theorem dX4_leakIn_3 : decode cX4_leakIn 3 = .ok (.aload_n 1, 1) := by decide +kernel
theorem dX4_leakIn_4 : decode cX4_leakIn 4 = .ok (.getfield 56, 3) := by decide +kernel
theorem dX4_leakIn_7 : decode cX4_leakIn 7 = .ok (.iconst 3, 1) := by decide +kernel
theorem dX4_leakIn_8 : decode cX4_leakIn 8 = .ok (.imul, 1) := by decide +kernel
theorem dX4_leakIn_9 : decode cX4_leakIn 9 = .ok (.if_icmp .ge 41, 3) := by decide +kernel
theorem dX4_leakIn_12 : decode cX4_leakIn 12 = .ok (.aload_n 0, 1) := by decide +kernel
theorem dX4_leakIn_13 : decode cX4_leakIn 13 = .ok (.getfield 9, 3) := by decide +kernel
theorem dX4_leakIn_16 : decode cX4_leakIn 16 = .ok (.iload_n 2, 1) := by decide +kernel
theorem dX4_leakIn_17 : decode cX4_leakIn 17 = .ok (.dup2, 1) := by decide +kernel
theorem dX4_leakIn_18 : decode cX4_leakIn 18 = .ok (.iaload, 1) := by decide +kernel
theorem dX4_leakIn_19 : decode cX4_leakIn 19 = .ok (.aload_n 1, 1) := by decide +kernel
theorem dX4_leakIn_20 : decode cX4_leakIn 20 = .ok (.getfield 111, 3) := by decide +kernel
theorem dX4_leakIn_23 : decode cX4_leakIn 23 = .ok (.iload_n 2, 1) := by decide +kernel
theorem dX4_leakIn_24 : decode cX4_leakIn 24 = .ok (.iaload, 1) := by decide +kernel
theorem dX4_leakIn_25 : decode cX4_leakIn 25 = .ok (.iadd, 1) := by decide +kernel
theorem dX4_leakIn_26 : decode cX4_leakIn 26 = .ok (.iastore, 1) := by decide +kernel
theorem dX4_leakIn_27 : decode cX4_leakIn 27 = .ok (.aload_n 0, 1) := by decide +kernel
theorem dX4_leakIn_28 : decode cX4_leakIn 28 = .ok (.getfield 21, 3) := by decide +kernel
theorem dX4_leakIn_31 : decode cX4_leakIn 31 = .ok (.iload_n 2, 1) := by decide +kernel
theorem dX4_leakIn_32 : decode cX4_leakIn 32 = .ok (.iconst 3, 1) := by decide +kernel
theorem dX4_leakIn_33 : decode cX4_leakIn 33 = .ok (.irem, 1) := by decide +kernel
theorem dX4_leakIn_34 : decode cX4_leakIn 34 = .ok (.dup2, 1) := by decide +kernel
theorem dX4_leakIn_35 : decode cX4_leakIn 35 = .ok (.iaload, 1) := by decide +kernel
theorem dX4_leakIn_36 : decode cX4_leakIn 36 = .ok (.aload_n 1, 1) := by decide +kernel
theorem dX4_leakIn_37 : decode cX4_leakIn 37 = .ok (.getfield 111, 3) := by decide +kernel
theorem dX4_leakIn_40 : decode cX4_leakIn 40 = .ok (.iload_n 2, 1) := by decide +kernel
theorem dX4_leakIn_41 : decode cX4_leakIn 41 = .ok (.iaload, 1) := by decide +kernel
theorem dX4_leakIn_42 : decode cX4_leakIn 42 = .ok (.iadd, 1) := by decide +kernel
theorem dX4_leakIn_43 : decode cX4_leakIn 43 = .ok (.iastore, 1) := by decide +kernel
theorem dX4_leakIn_44 : decode cX4_leakIn 44 = .ok (.iinc 2 1, 3) := by decide +kernel
theorem dX4_leakIn_47 : decode cX4_leakIn 47 = .ok (.goto (-45), 3) := by decide +kernel
theorem dX4_leakIn_50 : decode cX4_leakIn 50 = .ok (.return_, 1) := by decide +kernel
theorem dX4_flow_0 : decode cX4_flow 0 = .ok (.ldc2_w 42, 3) := by decide +kernel
theorem dX4_flow_3 : decode cX4_flow 3 = .ok (.aload_n 1, 1) := by decide +kernel
theorem dX4_flow_4 : decode cX4_flow 4 = .ok (.iload_n 2, 1) := by decide +kernel
theorem dX4_flow_5 : decode cX4_flow 5 = .ok (.invokevirtual 44, 3) := by decide +kernel
theorem dX4_flow_8 : decode cX4_flow 8 = .ok (.lmul, 1) := by decide +kernel
theorem dX4_flow_9 : decode cX4_flow 9 = .ok (.lstore 5, 2) := by decide +kernel
theorem dX4_flow_11 : decode cX4_flow 11 = .ok (.iconst 0, 1) := by decide +kernel
theorem dX4_flow_12 : decode cX4_flow 12 = .ok (.istore 7, 2) := by decide +kernel
theorem dX4_flow_14 : decode cX4_flow 14 = .ok (.iload 7, 2) := by decide +kernel
theorem dX4_flow_16 : decode cX4_flow 16 = .ok (.iconst 3, 1) := by decide +kernel
theorem dX4_flow_17 : decode cX4_flow 17 = .ok (.if_icmp .ge 78, 3) := by decide +kernel
theorem dX4_flow_20 : decode cX4_flow 20 = .ok (.iload_n 2, 1) := by decide +kernel
theorem dX4_flow_21 : decode cX4_flow 21 = .ok (.iconst 3, 1) := by decide +kernel
theorem dX4_flow_22 : decode cX4_flow 22 = .ok (.imul, 1) := by decide +kernel
theorem dX4_flow_23 : decode cX4_flow 23 = .ok (.iload 7, 2) := by decide +kernel
theorem dX4_flow_25 : decode cX4_flow 25 = .ok (.iadd, 1) := by decide +kernel
theorem dX4_flow_26 : decode cX4_flow 26 = .ok (.istore 8, 2) := by decide +kernel
theorem dX4_flow_28 : decode cX4_flow 28 = .ok (.aload_n 0, 1) := by decide +kernel
theorem dX4_flow_29 : decode cX4_flow 29 = .ok (.getfield 24, 3) := by decide +kernel
theorem dX4_flow_32 : decode cX4_flow 32 = .ok (.iload 8, 2) := by decide +kernel
theorem dX4_flow_34 : decode cX4_flow 34 = .ok (.iaload, 1) := by decide +kernel
theorem dX4_flow_35 : decode cX4_flow 35 = .ok (.i2l, 1) := by decide +kernel
theorem dX4_flow_36 : decode cX4_flow 36 = .ok (.iload 4, 2) := by decide +kernel
theorem dX4_flow_38 : decode cX4_flow 38 = .ok (.i2l, 1) := by decide +kernel
theorem dX4_flow_39 : decode cX4_flow 39 = .ok (.lmul, 1) := by decide +kernel
theorem dX4_flow_40 : decode cX4_flow 40 = .ok (.lload 5, 2) := by decide +kernel
theorem dX4_flow_42 : decode cX4_flow 42 = .ok (.ldiv, 1) := by decide +kernel
theorem dX4_flow_43 : decode cX4_flow 43 = .ok (.lstore 9, 2) := by decide +kernel
theorem dX4_flow_45 : decode cX4_flow 45 = .ok (.lload 9, 2) := by decide +kernel
theorem dX4_flow_47 : decode cX4_flow 47 = .ok (.aload_n 0, 1) := by decide +kernel
theorem dX4_flow_48 : decode cX4_flow 48 = .ok (.getfield 9, 3) := by decide +kernel
theorem dX4_flow_51 : decode cX4_flow 51 = .ok (.iload 8, 2) := by decide +kernel
theorem dX4_flow_53 : decode cX4_flow 53 = .ok (.iaload, 1) := by decide +kernel
theorem dX4_flow_54 : decode cX4_flow 54 = .ok (.i2l, 1) := by decide +kernel
theorem dX4_flow_55 : decode cX4_flow 55 = .ok (.invokestatic 50, 3) := by decide +kernel
theorem dX4_flow_58 : decode cX4_flow 58 = .ok (.l2i, 1) := by decide +kernel
theorem dX4_flow_59 : decode cX4_flow 59 = .ok (.istore 11, 2) := by decide +kernel
theorem dX4_flow_61 : decode cX4_flow 61 = .ok (.aload_n 0, 1) := by decide +kernel
theorem dX4_flow_62 : decode cX4_flow 62 = .ok (.getfield 9, 3) := by decide +kernel
theorem dX4_flow_65 : decode cX4_flow 65 = .ok (.iload 8, 2) := by decide +kernel
theorem dX4_flow_67 : decode cX4_flow 67 = .ok (.dup2, 1) := by decide +kernel
theorem dX4_flow_68 : decode cX4_flow 68 = .ok (.iaload, 1) := by decide +kernel
theorem dX4_flow_69 : decode cX4_flow 69 = .ok (.iload 11, 2) := by decide +kernel
theorem dX4_flow_71 : decode cX4_flow 71 = .ok (.isub, 1) := by decide +kernel
theorem dX4_flow_72 : decode cX4_flow 72 = .ok (.iastore, 1) := by decide +kernel
theorem dX4_flow_73 : decode cX4_flow 73 = .ok (.aload_n 0, 1) := by decide +kernel
theorem dX4_flow_74 : decode cX4_flow 74 = .ok (.getfield 9, 3) := by decide +kernel
theorem dX4_flow_77 : decode cX4_flow 77 = .ok (.iload_n 3, 1) := by decide +kernel
theorem dX4_flow_78 : decode cX4_flow 78 = .ok (.iconst 3, 1) := by decide +kernel
theorem dX4_flow_79 : decode cX4_flow 79 = .ok (.imul, 1) := by decide +kernel
theorem dX4_flow_80 : decode cX4_flow 80 = .ok (.iload 7, 2) := by decide +kernel
theorem dX4_flow_82 : decode cX4_flow 82 = .ok (.iadd, 1) := by decide +kernel
theorem dX4_flow_83 : decode cX4_flow 83 = .ok (.dup2, 1) := by decide +kernel
theorem dX4_flow_84 : decode cX4_flow 84 = .ok (.iaload, 1) := by decide +kernel
theorem dX4_flow_85 : decode cX4_flow 85 = .ok (.iload 11, 2) := by decide +kernel
theorem dX4_flow_87 : decode cX4_flow 87 = .ok (.iadd, 1) := by decide +kernel
theorem dX4_flow_88 : decode cX4_flow 88 = .ok (.iastore, 1) := by decide +kernel
theorem dX4_flow_89 : decode cX4_flow 89 = .ok (.iinc 7 1, 3) := by decide +kernel
theorem dX4_flow_92 : decode cX4_flow 92 = .ok (.goto (-78), 3) := by decide +kernel
theorem dX4_flow_95 : decode cX4_flow 95 = .ok (.return_, 1) := by decide +kernel
theorem dX4_draw_0 : decode cX4_draw 0 = .ok (.aload_n 1, 1) := by decide +kernel
theorem dX4_draw_1 : decode cX4_draw 1 = .ok (.getfield 114, 3) := by decide +kernel
theorem dX4_draw_4 : decode cX4_draw 4 = .ok (.iload_n 2, 1) := by decide +kernel
theorem dX4_draw_5 : decode cX4_draw 5 = .ok (.iaload, 1) := by decide +kernel
theorem dX4_draw_6 : decode cX4_draw 6 = .ok (.istore_n 3, 1) := by decide +kernel
theorem dX4_draw_7 : decode cX4_draw 7 = .ok (.ldc2_w 42, 3) := by decide +kernel
theorem dX4_draw_10 : decode cX4_draw 10 = .ok (.aload_n 1, 1) := by decide +kernel
theorem dX4_draw_11 : decode cX4_draw 11 = .ok (.iload_n 3, 1) := by decide +kernel
theorem dX4_draw_12 : decode cX4_draw 12 = .ok (.invokevirtual 44, 3) := by decide +kernel
theorem dX4_draw_15 : decode cX4_draw 15 = .ok (.lmul, 1) := by decide +kernel
theorem dX4_draw_16 : decode cX4_draw 16 = .ok (.lstore 4, 2) := by decide +kernel
theorem dX4_draw_18 : decode cX4_draw 18 = .ok (.iconst 0, 1) := by decide +kernel
theorem dX4_draw_19 : decode cX4_draw 19 = .ok (.istore 6, 2) := by decide +kernel
theorem dX4_draw_21 : decode cX4_draw 21 = .ok (.iload 6, 2) := by decide +kernel
theorem dX4_draw_23 : decode cX4_draw 23 = .ok (.iconst 3, 1) := by decide +kernel
theorem dX4_draw_24 : decode cX4_draw 24 = .ok (.if_icmp .ge 102, 3) := by decide +kernel
theorem dX4_draw_27 : decode cX4_draw 27 = .ok (.iload_n 3, 1) := by decide +kernel
theorem dX4_draw_28 : decode cX4_draw 28 = .ok (.iconst 3, 1) := by decide +kernel
theorem dX4_draw_29 : decode cX4_draw 29 = .ok (.imul, 1) := by decide +kernel
theorem dX4_draw_30 : decode cX4_draw 30 = .ok (.iload 6, 2) := by decide +kernel
theorem dX4_draw_32 : decode cX4_draw 32 = .ok (.iadd, 1) := by decide +kernel
theorem dX4_draw_33 : decode cX4_draw 33 = .ok (.istore 7, 2) := by decide +kernel
theorem dX4_draw_35 : decode cX4_draw 35 = .ok (.aload_n 0, 1) := by decide +kernel
theorem dX4_draw_36 : decode cX4_draw 36 = .ok (.getfield 9, 3) := by decide +kernel
theorem dX4_draw_39 : decode cX4_draw 39 = .ok (.iload 7, 2) := by decide +kernel
theorem dX4_draw_41 : decode cX4_draw 41 = .ok (.iaload, 1) := by decide +kernel
theorem dX4_draw_42 : decode cX4_draw 42 = .ok (.i2l, 1) := by decide +kernel
theorem dX4_draw_43 : decode cX4_draw 43 = .ok (.aload_n 1, 1) := by decide +kernel
theorem dX4_draw_44 : decode cX4_draw 44 = .ok (.getfield 117, 3) := by decide +kernel
theorem dX4_draw_47 : decode cX4_draw 47 = .ok (.iload_n 2, 1) := by decide +kernel
theorem dX4_draw_48 : decode cX4_draw 48 = .ok (.iconst 3, 1) := by decide +kernel
theorem dX4_draw_49 : decode cX4_draw 49 = .ok (.imul, 1) := by decide +kernel
theorem dX4_draw_50 : decode cX4_draw 50 = .ok (.iload 6, 2) := by decide +kernel
theorem dX4_draw_52 : decode cX4_draw 52 = .ok (.iadd, 1) := by decide +kernel
theorem dX4_draw_53 : decode cX4_draw 53 = .ok (.iaload, 1) := by decide +kernel
theorem dX4_draw_54 : decode cX4_draw 54 = .ok (.i2l, 1) := by decide +kernel
theorem dX4_draw_55 : decode cX4_draw 55 = .ok (.lmul, 1) := by decide +kernel
theorem dX4_draw_56 : decode cX4_draw 56 = .ok (.lload 4, 2) := by decide +kernel
theorem dX4_draw_58 : decode cX4_draw 58 = .ok (.ldiv, 1) := by decide +kernel
theorem dX4_draw_59 : decode cX4_draw 59 = .ok (.lstore 8, 2) := by decide +kernel
theorem dX4_draw_61 : decode cX4_draw 61 = .ok (.aload_n 1, 1) := by decide +kernel
theorem dX4_draw_62 : decode cX4_draw 62 = .ok (.getfield 66, 3) := by decide +kernel
theorem dX4_draw_65 : decode cX4_draw 65 = .ok (.iload_n 2, 1) := by decide +kernel
theorem dX4_draw_66 : decode cX4_draw 66 = .ok (.iaload, 1) := by decide +kernel
theorem dX4_draw_67 : decode cX4_draw 67 = .ok (.ifCond .le 23, 3) := by decide +kernel
theorem dX4_draw_70 : decode cX4_draw 70 = .ok (.lload 8, 2) := by decide +kernel
theorem dX4_draw_72 : decode cX4_draw 72 = .ok (.aload_n 1, 1) := by decide +kernel
theorem dX4_draw_73 : decode cX4_draw 73 = .ok (.getfield 66, 3) := by decide +kernel
theorem dX4_draw_76 : decode cX4_draw 76 = .ok (.iload_n 2, 1) := by decide +kernel
theorem dX4_draw_77 : decode cX4_draw 77 = .ok (.iaload, 1) := by decide +kernel
theorem dX4_draw_78 : decode cX4_draw 78 = .ok (.aload_n 0, 1) := by decide +kernel
theorem dX4_draw_79 : decode cX4_draw 79 = .ok (.iload_n 2, 1) := by decide +kernel
theorem dX4_draw_80 : decode cX4_draw 80 = .ok (.invokevirtual 120, 3) := by decide +kernel
theorem dX4_draw_83 : decode cX4_draw 83 = .ok (.isub, 1) := by decide +kernel
theorem dX4_draw_84 : decode cX4_draw 84 = .ok (.i2l, 1) := by decide +kernel
theorem dX4_draw_85 : decode cX4_draw 85 = .ok (.invokestatic 50, 3) := by decide +kernel
theorem dX4_draw_88 : decode cX4_draw 88 = .ok (.lstore 8, 2) := by decide +kernel
theorem dX4_draw_90 : decode cX4_draw 90 = .ok (.aload_n 0, 1) := by decide +kernel
theorem dX4_draw_91 : decode cX4_draw 91 = .ok (.getfield 9, 3) := by decide +kernel
theorem dX4_draw_94 : decode cX4_draw 94 = .ok (.iload 7, 2) := by decide +kernel
theorem dX4_draw_96 : decode cX4_draw 96 = .ok (.dup2, 1) := by decide +kernel
theorem dX4_draw_97 : decode cX4_draw 97 = .ok (.iaload, 1) := by decide +kernel
theorem dX4_draw_98 : decode cX4_draw 98 = .ok (.lload 8, 2) := by decide +kernel
theorem dX4_draw_100 : decode cX4_draw 100 = .ok (.l2i, 1) := by decide +kernel
theorem dX4_draw_101 : decode cX4_draw 101 = .ok (.isub, 1) := by decide +kernel
theorem dX4_draw_102 : decode cX4_draw 102 = .ok (.iastore, 1) := by decide +kernel
theorem dX4_draw_103 : decode cX4_draw 103 = .ok (.aload_n 0, 1) := by decide +kernel
theorem dX4_draw_104 : decode cX4_draw 104 = .ok (.getfield 18, 3) := by decide +kernel
theorem dX4_draw_107 : decode cX4_draw 107 = .ok (.iload_n 2, 1) := by decide +kernel
theorem dX4_draw_108 : decode cX4_draw 108 = .ok (.iconst 3, 1) := by decide +kernel
theorem dX4_draw_109 : decode cX4_draw 109 = .ok (.imul, 1) := by decide +kernel
theorem dX4_draw_110 : decode cX4_draw 110 = .ok (.iload 6, 2) := by decide +kernel
theorem dX4_draw_112 : decode cX4_draw 112 = .ok (.iadd, 1) := by decide +kernel
theorem dX4_draw_113 : decode cX4_draw 113 = .ok (.dup2, 1) := by decide +kernel
theorem dX4_draw_114 : decode cX4_draw 114 = .ok (.iaload, 1) := by decide +kernel
theorem dX4_draw_115 : decode cX4_draw 115 = .ok (.lload 8, 2) := by decide +kernel
theorem dX4_draw_117 : decode cX4_draw 117 = .ok (.l2i, 1) := by decide +kernel
theorem dX4_draw_118 : decode cX4_draw 118 = .ok (.iadd, 1) := by decide +kernel
theorem dX4_draw_119 : decode cX4_draw 119 = .ok (.iastore, 1) := by decide +kernel
theorem dX4_draw_120 : decode cX4_draw 120 = .ok (.iinc 6 1, 3) := by decide +kernel
theorem dX4_draw_123 : decode cX4_draw 123 = .ok (.goto (-102), 3) := by decide +kernel
theorem dX4_draw_126 : decode cX4_draw 126 = .ok (.return_, 1) := by decide +kernel
theorem dX4_giveBack_0 : decode cX4_giveBack 0 = .ok (.iconst 0, 1) := by decide +kernel
theorem dX4_giveBack_1 : decode cX4_giveBack 1 = .ok (.istore_n 3, 1) := by decide +kernel
theorem dX4_giveBack_2 : decode cX4_giveBack 2 = .ok (.iload_n 3, 1) := by decide +kernel
theorem dX4_giveBack_3 : decode cX4_giveBack 3 = .ok (.iconst 3, 1) := by decide +kernel
theorem dX4_giveBack_4 : decode cX4_giveBack 4 = .ok (.if_icmp .ge 63, 3) := by decide +kernel
theorem dX4_giveBack_7 : decode cX4_giveBack 7 = .ok (.iload_n 2, 1) := by decide +kernel
theorem dX4_giveBack_8 : decode cX4_giveBack 8 = .ok (.iconst 3, 1) := by decide +kernel
theorem dX4_giveBack_9 : decode cX4_giveBack 9 = .ok (.imul, 1) := by decide +kernel
theorem dX4_giveBack_10 : decode cX4_giveBack 10 = .ok (.iload_n 3, 1) := by decide +kernel
theorem dX4_giveBack_11 : decode cX4_giveBack 11 = .ok (.iadd, 1) := by decide +kernel
theorem dX4_giveBack_12 : decode cX4_giveBack 12 = .ok (.istore 4, 2) := by decide +kernel
theorem dX4_giveBack_14 : decode cX4_giveBack 14 = .ok (.aload_n 0, 1) := by decide +kernel
theorem dX4_giveBack_15 : decode cX4_giveBack 15 = .ok (.getfield 18, 3) := by decide +kernel
theorem dX4_giveBack_18 : decode cX4_giveBack 18 = .ok (.iload 4, 2) := by decide +kernel
theorem dX4_giveBack_20 : decode cX4_giveBack 20 = .ok (.iaload, 1) := by decide +kernel
theorem dX4_giveBack_21 : decode cX4_giveBack 21 = .ok (.bipush 9, 2) := by decide +kernel
theorem dX4_giveBack_23 : decode cX4_giveBack 23 = .ok (.iadd, 1) := by decide +kernel
theorem dX4_giveBack_24 : decode cX4_giveBack 24 = .ok (.bipush 10, 2) := by decide +kernel
theorem dX4_giveBack_26 : decode cX4_giveBack 26 = .ok (.idiv, 1) := by decide +kernel
theorem dX4_giveBack_27 : decode cX4_giveBack 27 = .ok (.istore 5, 2) := by decide +kernel
theorem dX4_giveBack_29 : decode cX4_giveBack 29 = .ok (.aload_n 0, 1) := by decide +kernel
theorem dX4_giveBack_30 : decode cX4_giveBack 30 = .ok (.getfield 18, 3) := by decide +kernel
theorem dX4_giveBack_33 : decode cX4_giveBack 33 = .ok (.iload 4, 2) := by decide +kernel
theorem dX4_giveBack_35 : decode cX4_giveBack 35 = .ok (.dup2, 1) := by decide +kernel
theorem dX4_giveBack_36 : decode cX4_giveBack 36 = .ok (.iaload, 1) := by decide +kernel
theorem dX4_giveBack_37 : decode cX4_giveBack 37 = .ok (.iload 5, 2) := by decide +kernel
theorem dX4_giveBack_39 : decode cX4_giveBack 39 = .ok (.isub, 1) := by decide +kernel
theorem dX4_giveBack_40 : decode cX4_giveBack 40 = .ok (.iastore, 1) := by decide +kernel
theorem dX4_giveBack_41 : decode cX4_giveBack 41 = .ok (.aload_n 0, 1) := by decide +kernel
theorem dX4_giveBack_42 : decode cX4_giveBack 42 = .ok (.getfield 9, 3) := by decide +kernel
theorem dX4_giveBack_45 : decode cX4_giveBack 45 = .ok (.aload_n 1, 1) := by decide +kernel
theorem dX4_giveBack_46 : decode cX4_giveBack 46 = .ok (.getfield 114, 3) := by decide +kernel
theorem dX4_giveBack_49 : decode cX4_giveBack 49 = .ok (.iload_n 2, 1) := by decide +kernel
theorem dX4_giveBack_50 : decode cX4_giveBack 50 = .ok (.iaload, 1) := by decide +kernel
theorem dX4_giveBack_51 : decode cX4_giveBack 51 = .ok (.iconst 3, 1) := by decide +kernel
theorem dX4_giveBack_52 : decode cX4_giveBack 52 = .ok (.imul, 1) := by decide +kernel
theorem dX4_giveBack_53 : decode cX4_giveBack 53 = .ok (.iload_n 3, 1) := by decide +kernel
theorem dX4_giveBack_54 : decode cX4_giveBack 54 = .ok (.iadd, 1) := by decide +kernel
theorem dX4_giveBack_55 : decode cX4_giveBack 55 = .ok (.dup2, 1) := by decide +kernel
theorem dX4_giveBack_56 : decode cX4_giveBack 56 = .ok (.iaload, 1) := by decide +kernel
theorem dX4_giveBack_57 : decode cX4_giveBack 57 = .ok (.iload 5, 2) := by decide +kernel
theorem dX4_giveBack_59 : decode cX4_giveBack 59 = .ok (.iadd, 1) := by decide +kernel
theorem dX4_giveBack_60 : decode cX4_giveBack 60 = .ok (.iastore, 1) := by decide +kernel
theorem dX4_giveBack_61 : decode cX4_giveBack 61 = .ok (.iinc 3 1, 3) := by decide +kernel
theorem dX4_giveBack_64 : decode cX4_giveBack 64 = .ok (.goto (-62), 3) := by decide +kernel
theorem dX4_giveBack_67 : decode cX4_giveBack 67 = .ok (.aload_n 0, 1) := by decide +kernel
theorem dX4_giveBack_68 : decode cX4_giveBack 68 = .ok (.iload_n 2, 1) := by decide +kernel
theorem dX4_giveBack_69 : decode cX4_giveBack 69 = .ok (.invokevirtual 120, 3) := by decide +kernel
theorem dX4_giveBack_72 : decode cX4_giveBack 72 = .ok (.ifCond .ne 17, 3) := by decide +kernel
theorem dX4_giveBack_75 : decode cX4_giveBack 75 = .ok (.aload_n 0, 1) := by decide +kernel
theorem dX4_giveBack_76 : decode cX4_giveBack 76 = .ok (.dup, 1) := by decide +kernel
theorem dX4_giveBack_77 : decode cX4_giveBack 77 = .ok (.getfield 31, 3) := by decide +kernel
theorem dX4_giveBack_80 : decode cX4_giveBack 80 = .ok (.iconst 1, 1) := by decide +kernel
theorem dX4_giveBack_81 : decode cX4_giveBack 81 = .ok (.iload_n 2, 1) := by decide +kernel
theorem dX4_giveBack_82 : decode cX4_giveBack 82 = .ok (.ishl, 1) := by decide +kernel
theorem dX4_giveBack_83 : decode cX4_giveBack 83 = .ok (.iconst (-1), 1) := by decide +kernel
theorem dX4_giveBack_84 : decode cX4_giveBack 84 = .ok (.ixor, 1) := by decide +kernel
theorem dX4_giveBack_85 : decode cX4_giveBack 85 = .ok (.iand, 1) := by decide +kernel
theorem dX4_giveBack_86 : decode cX4_giveBack 86 = .ok (.putfield 31, 3) := by decide +kernel
theorem dX4_giveBack_89 : decode cX4_giveBack 89 = .ok (.return_, 1) := by decide +kernel
theorem dX4_held_0 : decode cX4_held 0 = .ok (.aload_n 0, 1) := by decide +kernel
theorem dX4_held_1 : decode cX4_held 1 = .ok (.getfield 18, 3) := by decide +kernel
theorem dX4_held_4 : decode cX4_held 4 = .ok (.iload_n 1, 1) := by decide +kernel
theorem dX4_held_5 : decode cX4_held 5 = .ok (.iconst 3, 1) := by decide +kernel
theorem dX4_held_6 : decode cX4_held 6 = .ok (.imul, 1) := by decide +kernel
theorem dX4_held_7 : decode cX4_held 7 = .ok (.iaload, 1) := by decide +kernel
theorem dX4_held_8 : decode cX4_held 8 = .ok (.aload_n 0, 1) := by decide +kernel
theorem dX4_held_9 : decode cX4_held 9 = .ok (.getfield 18, 3) := by decide +kernel
theorem dX4_held_12 : decode cX4_held 12 = .ok (.iload_n 1, 1) := by decide +kernel
theorem dX4_held_13 : decode cX4_held 13 = .ok (.iconst 3, 1) := by decide +kernel
theorem dX4_held_14 : decode cX4_held 14 = .ok (.imul, 1) := by decide +kernel
theorem dX4_held_15 : decode cX4_held 15 = .ok (.iconst 1, 1) := by decide +kernel
theorem dX4_held_16 : decode cX4_held 16 = .ok (.iadd, 1) := by decide +kernel
theorem dX4_held_17 : decode cX4_held 17 = .ok (.iaload, 1) := by decide +kernel
theorem dX4_held_18 : decode cX4_held 18 = .ok (.iadd, 1) := by decide +kernel
theorem dX4_held_19 : decode cX4_held 19 = .ok (.aload_n 0, 1) := by decide +kernel
theorem dX4_held_20 : decode cX4_held 20 = .ok (.getfield 18, 3) := by decide +kernel
theorem dX4_held_23 : decode cX4_held 23 = .ok (.iload_n 1, 1) := by decide +kernel
theorem dX4_held_24 : decode cX4_held 24 = .ok (.iconst 3, 1) := by decide +kernel
theorem dX4_held_25 : decode cX4_held 25 = .ok (.imul, 1) := by decide +kernel
theorem dX4_held_26 : decode cX4_held 26 = .ok (.iconst 2, 1) := by decide +kernel
theorem dX4_held_27 : decode cX4_held 27 = .ok (.iadd, 1) := by decide +kernel
theorem dX4_held_28 : decode cX4_held 28 = .ok (.iaload, 1) := by decide +kernel
theorem dX4_held_29 : decode cX4_held 29 = .ok (.iadd, 1) := by decide +kernel
theorem dX4_held_30 : decode cX4_held 30 = .ok (.ireturn, 1) := by decide +kernel
theorem dX5_init_0 : decode cX5_init 0 = .ok (.aload_n 0, 1) := by decide +kernel
theorem dX5_init_1 : decode cX5_init 1 = .ok (.invokespecial 3, 3) := by decide +kernel
theorem dX5_init_4 : decode cX5_init 4 = .ok (.aload_n 0, 1) := by decide +kernel
theorem dX5_init_5 : decode cX5_init 5 = .ok (.iconst 5, 1) := by decide +kernel
theorem dX5_init_6 : decode cX5_init 6 = .ok (.newarray .int, 2) := by decide +kernel
theorem dX5_init_8 : decode cX5_init 8 = .ok (.putfield 9, 3) := by decide +kernel
theorem dX5_init_11 : decode cX5_init 11 = .ok (.aload_n 0, 1) := by decide +kernel
theorem dX5_init_12 : decode cX5_init 12 = .ok (.iconst 5, 1) := by decide +kernel
theorem dX5_init_13 : decode cX5_init 13 = .ok (.newarray .int, 2) := by decide +kernel
theorem dX5_init_15 : decode cX5_init 15 = .ok (.putfield 15, 3) := by decide +kernel
theorem dX5_init_18 : decode cX5_init 18 = .ok (.aload_n 0, 1) := by decide +kernel
theorem dX5_init_19 : decode cX5_init 19 = .ok (.iconst 5, 1) := by decide +kernel
theorem dX5_init_20 : decode cX5_init 20 = .ok (.newarray .int, 2) := by decide +kernel
theorem dX5_init_22 : decode cX5_init 22 = .ok (.putfield 18, 3) := by decide +kernel
theorem dX5_init_25 : decode cX5_init 25 = .ok (.aload_n 0, 1) := by decide +kernel
theorem dX5_init_26 : decode cX5_init 26 = .ok (.bipush 40, 2) := by decide +kernel
theorem dX5_init_28 : decode cX5_init 28 = .ok (.newarray .int, 2) := by decide +kernel
theorem dX5_init_30 : decode cX5_init 30 = .ok (.putfield 21, 3) := by decide +kernel
theorem dX5_init_33 : decode cX5_init 33 = .ok (.aload_n 0, 1) := by decide +kernel
theorem dX5_init_34 : decode cX5_init 34 = .ok (.bipush 15, 2) := by decide +kernel
theorem dX5_init_36 : decode cX5_init 36 = .ok (.newarray .int, 2) := by decide +kernel
theorem dX5_init_38 : decode cX5_init 38 = .ok (.putfield 24, 3) := by decide +kernel
theorem dX5_init_41 : decode cX5_init 41 = .ok (.aload_n 0, 1) := by decide +kernel
theorem dX5_init_42 : decode cX5_init 42 = .ok (.bipush 12, 2) := by decide +kernel
theorem dX5_init_44 : decode cX5_init 44 = .ok (.newarray .int, 2) := by decide +kernel
theorem dX5_init_46 : decode cX5_init 46 = .ok (.putfield 27, 3) := by decide +kernel
theorem dX5_init_49 : decode cX5_init 49 = .ok (.aload_n 0, 1) := by decide +kernel
theorem dX5_init_50 : decode cX5_init 50 = .ok (.bipush 12, 2) := by decide +kernel
theorem dX5_init_52 : decode cX5_init 52 = .ok (.newarray .int, 2) := by decide +kernel
theorem dX5_init_54 : decode cX5_init 54 = .ok (.putfield 30, 3) := by decide +kernel
theorem dX5_init_57 : decode cX5_init 57 = .ok (.aload_n 0, 1) := by decide +kernel
theorem dX5_init_58 : decode cX5_init 58 = .ok (.bipush 12, 2) := by decide +kernel
theorem dX5_init_60 : decode cX5_init 60 = .ok (.newarray .int, 2) := by decide +kernel
theorem dX5_init_62 : decode cX5_init 62 = .ok (.putfield 33, 3) := by decide +kernel
theorem dX5_init_65 : decode cX5_init 65 = .ok (.aload_n 0, 1) := by decide +kernel
theorem dX5_init_66 : decode cX5_init 66 = .ok (.bipush 8, 2) := by decide +kernel
theorem dX5_init_68 : decode cX5_init 68 = .ok (.newarray .int, 2) := by decide +kernel
theorem dX5_init_70 : decode cX5_init 70 = .ok (.putfield 36, 3) := by decide +kernel
theorem dX5_init_73 : decode cX5_init 73 = .ok (.aload_n 0, 1) := by decide +kernel
theorem dX5_init_74 : decode cX5_init 74 = .ok (.bipush 24, 2) := by decide +kernel
theorem dX5_init_76 : decode cX5_init 76 = .ok (.newarray .int, 2) := by decide +kernel
theorem dX5_init_78 : decode cX5_init 78 = .ok (.putfield 39, 3) := by decide +kernel
theorem dX5_init_81 : decode cX5_init 81 = .ok (.aload_n 0, 1) := by decide +kernel
theorem dX5_init_82 : decode cX5_init 82 = .ok (.bipush 8, 2) := by decide +kernel
theorem dX5_init_84 : decode cX5_init 84 = .ok (.newarray .int, 2) := by decide +kernel
theorem dX5_init_86 : decode cX5_init 86 = .ok (.putfield 42, 3) := by decide +kernel
theorem dX5_init_89 : decode cX5_init 89 = .ok (.return_, 1) := by decide +kernel
theorem dX5_addRoom_0 : decode cX5_addRoom 0 = .ok (.aload_n 0, 1) := by decide +kernel
theorem dX5_addRoom_1 : decode cX5_addRoom 1 = .ok (.getfield 45, 3) := by decide +kernel
theorem dX5_addRoom_4 : decode cX5_addRoom 4 = .ok (.iconst 5, 1) := by decide +kernel
theorem dX5_addRoom_5 : decode cX5_addRoom 5 = .ok (.if_icmp .lt 6, 3) := by decide +kernel
theorem dX5_addRoom_8 : decode cX5_addRoom 8 = .ok (.bipush (-9), 2) := by decide +kernel
theorem dX5_addRoom_10 : decode cX5_addRoom 10 = .ok (.ireturn, 1) := by decide +kernel
theorem dX5_addRoom_11 : decode cX5_addRoom 11 = .ok (.aload_n 0, 1) := by decide +kernel
theorem dX5_addRoom_12 : decode cX5_addRoom 12 = .ok (.getfield 9, 3) := by decide +kernel
theorem dX5_addRoom_15 : decode cX5_addRoom 15 = .ok (.aload_n 0, 1) := by decide +kernel
theorem dX5_addRoom_16 : decode cX5_addRoom 16 = .ok (.getfield 45, 3) := by decide +kernel
theorem dX5_addRoom_19 : decode cX5_addRoom 19 = .ok (.iload_n 1, 1) := by decide +kernel
theorem dX5_addRoom_20 : decode cX5_addRoom 20 = .ok (.iastore, 1) := by decide +kernel
theorem dX5_addRoom_21 : decode cX5_addRoom 21 = .ok (.aload_n 0, 1) := by decide +kernel
theorem dX5_addRoom_22 : decode cX5_addRoom 22 = .ok (.getfield 15, 3) := by decide +kernel
theorem dX5_addRoom_25 : decode cX5_addRoom 25 = .ok (.aload_n 0, 1) := by decide +kernel
theorem dX5_addRoom_26 : decode cX5_addRoom 26 = .ok (.getfield 45, 3) := by decide +kernel
theorem dX5_addRoom_29 : decode cX5_addRoom 29 = .ok (.iload_n 2, 1) := by decide +kernel
theorem dX5_addRoom_30 : decode cX5_addRoom 30 = .ok (.iastore, 1) := by decide +kernel
theorem dX5_addRoom_31 : decode cX5_addRoom 31 = .ok (.aload_n 0, 1) := by decide +kernel
theorem dX5_addRoom_32 : decode cX5_addRoom 32 = .ok (.getfield 18, 3) := by decide +kernel
theorem dX5_addRoom_35 : decode cX5_addRoom 35 = .ok (.aload_n 0, 1) := by decide +kernel
theorem dX5_addRoom_36 : decode cX5_addRoom 36 = .ok (.getfield 45, 3) := by decide +kernel
theorem dX5_addRoom_39 : decode cX5_addRoom 39 = .ok (.iconst 5, 1) := by decide +kernel
theorem dX5_addRoom_40 : decode cX5_addRoom 40 = .ok (.iastore, 1) := by decide +kernel
theorem dX5_addRoom_41 : decode cX5_addRoom 41 = .ok (.aload_n 0, 1) := by decide +kernel
theorem dX5_addRoom_42 : decode cX5_addRoom 42 = .ok (.dup, 1) := by decide +kernel
theorem dX5_addRoom_43 : decode cX5_addRoom 43 = .ok (.getfield 45, 3) := by decide +kernel
theorem dX5_addRoom_46 : decode cX5_addRoom 46 = .ok (.dup_x1, 1) := by decide +kernel
theorem dX5_addRoom_47 : decode cX5_addRoom 47 = .ok (.iconst 1, 1) := by decide +kernel
theorem dX5_addRoom_48 : decode cX5_addRoom 48 = .ok (.iadd, 1) := by decide +kernel
theorem dX5_addRoom_49 : decode cX5_addRoom 49 = .ok (.putfield 45, 3) := by decide +kernel
theorem dX5_addRoom_52 : decode cX5_addRoom 52 = .ok (.ireturn, 1) := by decide +kernel
theorem dX5_addPipe_0 : decode cX5_addPipe 0 = .ok (.aload_n 0, 1) := by decide +kernel
theorem dX5_addPipe_1 : decode cX5_addPipe 1 = .ok (.getfield 49, 3) := by decide +kernel
theorem dX5_addPipe_4 : decode cX5_addPipe 4 = .ok (.bipush 12, 2) := by decide +kernel
theorem dX5_addPipe_6 : decode cX5_addPipe 6 = .ok (.if_icmp .lt 6, 3) := by decide +kernel
theorem dX5_addPipe_9 : decode cX5_addPipe 9 = .ok (.bipush (-9), 2) := by decide +kernel
theorem dX5_addPipe_11 : decode cX5_addPipe 11 = .ok (.ireturn, 1) := by decide +kernel
theorem dX5_addPipe_12 : decode cX5_addPipe 12 = .ok (.aload_n 0, 1) := by decide +kernel
theorem dX5_addPipe_13 : decode cX5_addPipe 13 = .ok (.getfield 27, 3) := by decide +kernel
theorem dX5_addPipe_16 : decode cX5_addPipe 16 = .ok (.aload_n 0, 1) := by decide +kernel
theorem dX5_addPipe_17 : decode cX5_addPipe 17 = .ok (.getfield 49, 3) := by decide +kernel
theorem dX5_addPipe_20 : decode cX5_addPipe 20 = .ok (.iload_n 1, 1) := by decide +kernel
theorem dX5_addPipe_21 : decode cX5_addPipe 21 = .ok (.iastore, 1) := by decide +kernel
theorem dX5_addPipe_22 : decode cX5_addPipe 22 = .ok (.aload_n 0, 1) := by decide +kernel
theorem dX5_addPipe_23 : decode cX5_addPipe 23 = .ok (.getfield 30, 3) := by decide +kernel
theorem dX5_addPipe_26 : decode cX5_addPipe 26 = .ok (.aload_n 0, 1) := by decide +kernel
theorem dX5_addPipe_27 : decode cX5_addPipe 27 = .ok (.getfield 49, 3) := by decide +kernel
theorem dX5_addPipe_30 : decode cX5_addPipe 30 = .ok (.iload_n 2, 1) := by decide +kernel
theorem dX5_addPipe_31 : decode cX5_addPipe 31 = .ok (.iastore, 1) := by decide +kernel
theorem dX5_addPipe_32 : decode cX5_addPipe 32 = .ok (.aload_n 0, 1) := by decide +kernel
theorem dX5_addPipe_33 : decode cX5_addPipe 33 = .ok (.getfield 33, 3) := by decide +kernel
theorem dX5_addPipe_36 : decode cX5_addPipe 36 = .ok (.aload_n 0, 1) := by decide +kernel
theorem dX5_addPipe_37 : decode cX5_addPipe 37 = .ok (.getfield 49, 3) := by decide +kernel
theorem dX5_addPipe_40 : decode cX5_addPipe 40 = .ok (.iload_n 3, 1) := by decide +kernel
theorem dX5_addPipe_41 : decode cX5_addPipe 41 = .ok (.iastore, 1) := by decide +kernel
theorem dX5_addPipe_42 : decode cX5_addPipe 42 = .ok (.aload_n 0, 1) := by decide +kernel
theorem dX5_addPipe_43 : decode cX5_addPipe 43 = .ok (.dup, 1) := by decide +kernel
theorem dX5_addPipe_44 : decode cX5_addPipe 44 = .ok (.getfield 49, 3) := by decide +kernel
theorem dX5_addPipe_47 : decode cX5_addPipe 47 = .ok (.dup_x1, 1) := by decide +kernel
theorem dX5_addPipe_48 : decode cX5_addPipe 48 = .ok (.iconst 1, 1) := by decide +kernel
theorem dX5_addPipe_49 : decode cX5_addPipe 49 = .ok (.iadd, 1) := by decide +kernel
theorem dX5_addPipe_50 : decode cX5_addPipe 50 = .ok (.putfield 49, 3) := by decide +kernel
theorem dX5_addPipe_53 : decode cX5_addPipe 53 = .ok (.ireturn, 1) := by decide +kernel
theorem dX5_addPump_0 : decode cX5_addPump 0 = .ok (.aload_n 0, 1) := by decide +kernel
theorem dX5_addPump_1 : decode cX5_addPump 1 = .ok (.getfield 52, 3) := by decide +kernel
theorem dX5_addPump_4 : decode cX5_addPump 4 = .ok (.bipush 8, 2) := by decide +kernel
theorem dX5_addPump_6 : decode cX5_addPump 6 = .ok (.if_icmp .lt 6, 3) := by decide +kernel
theorem dX5_addPump_9 : decode cX5_addPump 9 = .ok (.bipush (-9), 2) := by decide +kernel
theorem dX5_addPump_11 : decode cX5_addPump 11 = .ok (.ireturn, 1) := by decide +kernel
theorem dX5_addPump_12 : decode cX5_addPump 12 = .ok (.aload_n 0, 1) := by decide +kernel
theorem dX5_addPump_13 : decode cX5_addPump 13 = .ok (.getfield 36, 3) := by decide +kernel
theorem dX5_addPump_16 : decode cX5_addPump 16 = .ok (.aload_n 0, 1) := by decide +kernel
theorem dX5_addPump_17 : decode cX5_addPump 17 = .ok (.getfield 52, 3) := by decide +kernel
theorem dX5_addPump_20 : decode cX5_addPump 20 = .ok (.iload_n 1, 1) := by decide +kernel
theorem dX5_addPump_21 : decode cX5_addPump 21 = .ok (.iastore, 1) := by decide +kernel
theorem dX5_addPump_22 : decode cX5_addPump 22 = .ok (.aload_n 0, 1) := by decide +kernel
theorem dX5_addPump_23 : decode cX5_addPump 23 = .ok (.getfield 39, 3) := by decide +kernel
theorem dX5_addPump_26 : decode cX5_addPump 26 = .ok (.aload_n 0, 1) := by decide +kernel
theorem dX5_addPump_27 : decode cX5_addPump 27 = .ok (.getfield 52, 3) := by decide +kernel
theorem dX5_addPump_30 : decode cX5_addPump 30 = .ok (.iconst 3, 1) := by decide +kernel
theorem dX5_addPump_31 : decode cX5_addPump 31 = .ok (.imul, 1) := by decide +kernel
theorem dX5_addPump_32 : decode cX5_addPump 32 = .ok (.iload_n 2, 1) := by decide +kernel
theorem dX5_addPump_33 : decode cX5_addPump 33 = .ok (.iastore, 1) := by decide +kernel
theorem dX5_addPump_34 : decode cX5_addPump 34 = .ok (.aload_n 0, 1) := by decide +kernel
theorem dX5_addPump_35 : decode cX5_addPump 35 = .ok (.getfield 39, 3) := by decide +kernel
theorem dX5_addPump_38 : decode cX5_addPump 38 = .ok (.aload_n 0, 1) := by decide +kernel
theorem dX5_addPump_39 : decode cX5_addPump 39 = .ok (.getfield 52, 3) := by decide +kernel
theorem dX5_addPump_42 : decode cX5_addPump 42 = .ok (.iconst 3, 1) := by decide +kernel
theorem dX5_addPump_43 : decode cX5_addPump 43 = .ok (.imul, 1) := by decide +kernel
theorem dX5_addPump_44 : decode cX5_addPump 44 = .ok (.iconst 1, 1) := by decide +kernel
theorem dX5_addPump_45 : decode cX5_addPump 45 = .ok (.iadd, 1) := by decide +kernel
theorem dX5_addPump_46 : decode cX5_addPump 46 = .ok (.iload_n 3, 1) := by decide +kernel
theorem dX5_addPump_47 : decode cX5_addPump 47 = .ok (.iastore, 1) := by decide +kernel
theorem dX5_addPump_48 : decode cX5_addPump 48 = .ok (.aload_n 0, 1) := by decide +kernel
theorem dX5_addPump_49 : decode cX5_addPump 49 = .ok (.getfield 39, 3) := by decide +kernel
theorem dX5_addPump_52 : decode cX5_addPump 52 = .ok (.aload_n 0, 1) := by decide +kernel
theorem dX5_addPump_53 : decode cX5_addPump 53 = .ok (.getfield 52, 3) := by decide +kernel
theorem dX5_addPump_56 : decode cX5_addPump 56 = .ok (.iconst 3, 1) := by decide +kernel
theorem dX5_addPump_57 : decode cX5_addPump 57 = .ok (.imul, 1) := by decide +kernel
theorem dX5_addPump_58 : decode cX5_addPump 58 = .ok (.iconst 2, 1) := by decide +kernel
theorem dX5_addPump_59 : decode cX5_addPump 59 = .ok (.iadd, 1) := by decide +kernel
theorem dX5_addPump_60 : decode cX5_addPump 60 = .ok (.iload 4, 2) := by decide +kernel
theorem dX5_addPump_62 : decode cX5_addPump 62 = .ok (.iastore, 1) := by decide +kernel
theorem dX5_addPump_63 : decode cX5_addPump 63 = .ok (.aload_n 0, 1) := by decide +kernel
theorem dX5_addPump_64 : decode cX5_addPump 64 = .ok (.getfield 42, 3) := by decide +kernel
theorem dX5_addPump_67 : decode cX5_addPump 67 = .ok (.aload_n 0, 1) := by decide +kernel
theorem dX5_addPump_68 : decode cX5_addPump 68 = .ok (.getfield 52, 3) := by decide +kernel
theorem dX5_addPump_71 : decode cX5_addPump 71 = .ok (.iload 5, 2) := by decide +kernel
theorem dX5_addPump_73 : decode cX5_addPump 73 = .ok (.iastore, 1) := by decide +kernel
theorem dX5_addPump_74 : decode cX5_addPump 74 = .ok (.aload_n 0, 1) := by decide +kernel
theorem dX5_addPump_75 : decode cX5_addPump 75 = .ok (.dup, 1) := by decide +kernel
theorem dX5_addPump_76 : decode cX5_addPump 76 = .ok (.getfield 52, 3) := by decide +kernel
theorem dX5_addPump_79 : decode cX5_addPump 79 = .ok (.dup_x1, 1) := by decide +kernel
theorem dX5_addPump_80 : decode cX5_addPump 80 = .ok (.iconst 1, 1) := by decide +kernel
theorem dX5_addPump_81 : decode cX5_addPump 81 = .ok (.iadd, 1) := by decide +kernel
theorem dX5_addPump_82 : decode cX5_addPump 82 = .ok (.putfield 52, 3) := by decide +kernel
theorem dX5_addPump_85 : decode cX5_addPump 85 = .ok (.ireturn, 1) := by decide +kernel
theorem dX5_divisor_0 : decode cX5_divisor 0 = .ok (.aload_n 0, 1) := by decide +kernel
theorem dX5_divisor_1 : decode cX5_divisor 1 = .ok (.getfield 9, 3) := by decide +kernel
theorem dX5_divisor_4 : decode cX5_divisor 4 = .ok (.iload_n 1, 1) := by decide +kernel
theorem dX5_divisor_5 : decode cX5_divisor 5 = .ok (.iaload, 1) := by decide +kernel
theorem dX5_divisor_6 : decode cX5_divisor 6 = .ok (.ifCond .le 13, 3) := by decide +kernel
theorem dX5_divisor_9 : decode cX5_divisor 9 = .ok (.aload_n 0, 1) := by decide +kernel
theorem dX5_divisor_10 : decode cX5_divisor 10 = .ok (.getfield 9, 3) := by decide +kernel
theorem dX5_divisor_13 : decode cX5_divisor 13 = .ok (.iload_n 1, 1) := by decide +kernel
theorem dX5_divisor_14 : decode cX5_divisor 14 = .ok (.iaload, 1) := by decide +kernel
theorem dX5_divisor_15 : decode cX5_divisor 15 = .ok (.i2l, 1) := by decide +kernel
theorem dX5_divisor_16 : decode cX5_divisor 16 = .ok (.goto 4, 3) := by decide +kernel
theorem dX5_divisor_19 : decode cX5_divisor 19 = .ok (.lconst 1, 1) := by decide +kernel
theorem dX5_divisor_20 : decode cX5_divisor 20 = .ok (.lreturn, 1) := by decide +kernel
theorem dX5_givenShare_0 : decode cX5_givenShare 0 = .ok (.aload_n 0, 1) := by decide +kernel
theorem dX5_givenShare_1 : decode cX5_givenShare 1 = .ok (.getfield 21, 3) := by decide +kernel
theorem dX5_givenShare_4 : decode cX5_givenShare 4 = .ok (.aload_n 0, 1) := by decide +kernel
theorem dX5_givenShare_5 : decode cX5_givenShare 5 = .ok (.getfield 15, 3) := by decide +kernel
theorem dX5_givenShare_8 : decode cX5_givenShare 8 = .ok (.iload_n 1, 1) := by decide +kernel
theorem dX5_givenShare_9 : decode cX5_givenShare 9 = .ok (.iaload, 1) := by decide +kernel
theorem dX5_givenShare_10 : decode cX5_givenShare 10 = .ok (.bipush 10, 2) := by decide +kernel
theorem dX5_givenShare_12 : decode cX5_givenShare 12 = .ok (.imul, 1) := by decide +kernel
theorem dX5_givenShare_13 : decode cX5_givenShare 13 = .ok (.aload_n 0, 1) := by decide +kernel
theorem dX5_givenShare_14 : decode cX5_givenShare 14 = .ok (.getfield 18, 3) := by decide +kernel
theorem dX5_givenShare_17 : decode cX5_givenShare 17 = .ok (.iload_n 1, 1) := by decide +kernel
theorem dX5_givenShare_18 : decode cX5_givenShare 18 = .ok (.iaload, 1) := by decide +kernel
theorem dX5_givenShare_19 : decode cX5_givenShare 19 = .ok (.iadd, 1) := by decide +kernel
theorem dX5_givenShare_20 : decode cX5_givenShare 20 = .ok (.iaload, 1) := by decide +kernel
theorem dX5_givenShare_21 : decode cX5_givenShare 21 = .ok (.ireturn, 1) := by decide +kernel
theorem dX6_init_0 : decode cX6_init 0 = .ok (.aload_n 0, 1) := by decide +kernel
theorem dX6_init_1 : decode cX6_init 1 = .ok (.invokespecial 3, 3) := by decide +kernel
theorem dX6_init_4 : decode cX6_init 4 = .ok (.aload_n 0, 1) := by decide +kernel
theorem dX6_init_5 : decode cX6_init 5 = .ok (.bipush 40, 2) := by decide +kernel
theorem dX6_init_7 : decode cX6_init 7 = .ok (.newarray .int, 2) := by decide +kernel
theorem dX6_init_9 : decode cX6_init 9 = .ok (.putfield 9, 3) := by decide +kernel
theorem dX6_init_12 : decode cX6_init 12 = .ok (.aload_n 0, 1) := by decide +kernel
theorem dX6_init_13 : decode cX6_init 13 = .ok (.bipush 40, 2) := by decide +kernel
theorem dX6_init_15 : decode cX6_init 15 = .ok (.newarray .int, 2) := by decide +kernel
theorem dX6_init_17 : decode cX6_init 17 = .ok (.putfield 15, 3) := by decide +kernel
theorem dX6_init_20 : decode cX6_init 20 = .ok (.return_, 1) := by decide +kernel
theorem dX6_take_0 : decode cX6_take 0 = .ok (.iconst 0, 1) := by decide +kernel
theorem dX6_take_1 : decode cX6_take 1 = .ok (.istore 4, 2) := by decide +kernel
theorem dX6_take_3 : decode cX6_take 3 = .ok (.iload 4, 2) := by decide +kernel
theorem dX6_take_5 : decode cX6_take 5 = .ok (.iload_n 1, 1) := by decide +kernel
theorem dX6_take_6 : decode cX6_take 6 = .ok (.if_icmp .ge 49, 3) := by decide +kernel
theorem dX6_take_9 : decode cX6_take 9 = .ok (.aload_n 0, 1) := by decide +kernel
theorem dX6_take_10 : decode cX6_take 10 = .ok (.getfield 18, 3) := by decide +kernel
theorem dX6_take_13 : decode cX6_take 13 = .ok (.bipush 40, 2) := by decide +kernel
theorem dX6_take_15 : decode cX6_take 15 = .ok (.if_icmp .ge 40, 3) := by decide +kernel
theorem dX6_take_18 : decode cX6_take 18 = .ok (.aload_n 0, 1) := by decide +kernel
theorem dX6_take_19 : decode cX6_take 19 = .ok (.getfield 9, 3) := by decide +kernel
theorem dX6_take_22 : decode cX6_take 22 = .ok (.aload_n 0, 1) := by decide +kernel
theorem dX6_take_23 : decode cX6_take 23 = .ok (.getfield 18, 3) := by decide +kernel
theorem dX6_take_26 : decode cX6_take 26 = .ok (.lload_n 2, 1) := by decide +kernel
theorem dX6_take_27 : decode cX6_take 27 = .ok (.bipush 8, 2) := by decide +kernel
theorem dX6_take_29 : decode cX6_take 29 = .ok (.iload 4, 2) := by decide +kernel
theorem dX6_take_31 : decode cX6_take 31 = .ok (.imul, 1) := by decide +kernel
theorem dX6_take_32 : decode cX6_take 32 = .ok (.lushr, 1) := by decide +kernel
theorem dX6_take_33 : decode cX6_take 33 = .ok (.ldc2_w 22, 3) := by decide +kernel
theorem dX6_take_36 : decode cX6_take 36 = .ok (.land, 1) := by decide +kernel
theorem dX6_take_37 : decode cX6_take 37 = .ok (.l2i, 1) := by decide +kernel
theorem dX6_take_38 : decode cX6_take 38 = .ok (.iastore, 1) := by decide +kernel
theorem dX6_take_39 : decode cX6_take 39 = .ok (.aload_n 0, 1) := by decide +kernel
theorem dX6_take_40 : decode cX6_take 40 = .ok (.dup, 1) := by decide +kernel
theorem dX6_take_41 : decode cX6_take 41 = .ok (.getfield 18, 3) := by decide +kernel
theorem dX6_take_44 : decode cX6_take 44 = .ok (.iconst 1, 1) := by decide +kernel
theorem dX6_take_45 : decode cX6_take 45 = .ok (.iadd, 1) := by decide +kernel
theorem dX6_take_46 : decode cX6_take 46 = .ok (.putfield 18, 3) := by decide +kernel
theorem dX6_take_49 : decode cX6_take 49 = .ok (.iinc 4 1, 3) := by decide +kernel
theorem dX6_take_52 : decode cX6_take 52 = .ok (.goto (-49), 3) := by decide +kernel
theorem dX6_take_55 : decode cX6_take 55 = .ok (.aload_n 0, 1) := by decide +kernel
theorem dX6_take_56 : decode cX6_take 56 = .ok (.getfield 18, 3) := by decide +kernel
theorem dX6_take_59 : decode cX6_take 59 = .ok (.ireturn, 1) := by decide +kernel
theorem dX6_parses_0 : decode cX6_parses 0 = .ok (.aload_n 0, 1) := by decide +kernel
theorem dX6_parses_1 : decode cX6_parses 1 = .ok (.iconst 0, 1) := by decide +kernel
theorem dX6_parses_2 : decode cX6_parses 2 = .ok (.putfield 24, 3) := by decide +kernel
theorem dX6_parses_5 : decode cX6_parses 5 = .ok (.aload_n 0, 1) := by decide +kernel
theorem dX6_parses_6 : decode cX6_parses 6 = .ok (.iconst (-1), 1) := by decide +kernel
theorem dX6_parses_7 : decode cX6_parses 7 = .ok (.putfield 27, 3) := by decide +kernel
theorem dX6_parses_10 : decode cX6_parses 10 = .ok (.aload_n 0, 1) := by decide +kernel
theorem dX6_parses_11 : decode cX6_parses 11 = .ok (.invokevirtual 30, 3) := by decide +kernel
theorem dX6_parses_14 : decode cX6_parses 14 = .ok (.aload_n 0, 1) := by decide +kernel
theorem dX6_parses_15 : decode cX6_parses 15 = .ok (.aload_n 0, 1) := by decide +kernel
theorem dX6_parses_16 : decode cX6_parses 16 = .ok (.getfield 33, 3) := by decide +kernel
theorem dX6_parses_19 : decode cX6_parses 19 = .ok (.bipush 80, 2) := by decide +kernel
theorem dX6_parses_21 : decode cX6_parses 21 = .ok (.if_icmp .ne 7, 3) := by decide +kernel
theorem dX6_parses_24 : decode cX6_parses 24 = .ok (.iconst 1, 1) := by decide +kernel
theorem dX6_parses_25 : decode cX6_parses 25 = .ok (.goto 4, 3) := by decide +kernel
theorem dX6_parses_28 : decode cX6_parses 28 = .ok (.iconst 0, 1) := by decide +kernel
theorem dX6_parses_29 : decode cX6_parses 29 = .ok (.putfield 36, 3) := by decide +kernel
theorem dX6_parses_32 : decode cX6_parses 32 = .ok (.aload_n 0, 1) := by decide +kernel
theorem dX6_parses_33 : decode cX6_parses 33 = .ok (.bipush 80, 2) := by decide +kernel
theorem dX6_parses_35 : decode cX6_parses 35 = .ok (.invokevirtual 40, 3) := by decide +kernel
theorem dX6_parses_38 : decode cX6_parses 38 = .ok (.ifCond .ne 14, 3) := by decide +kernel
theorem dX6_parses_41 : decode cX6_parses 41 = .ok (.aload_n 0, 1) := by decide +kernel
theorem dX6_parses_42 : decode cX6_parses 42 = .ok (.bipush 86, 2) := by decide +kernel
theorem dX6_parses_44 : decode cX6_parses 44 = .ok (.invokevirtual 40, 3) := by decide +kernel
theorem dX6_parses_47 : decode cX6_parses 47 = .ok (.ifCond .ne 5, 3) := by decide +kernel
theorem dX6_parses_50 : decode cX6_parses 50 = .ok (.iconst 0, 1) := by decide +kernel
theorem dX6_parses_51 : decode cX6_parses 51 = .ok (.ireturn, 1) := by decide +kernel
theorem dX6_parses_52 : decode cX6_parses 52 = .ok (.aload_n 0, 1) := by decide +kernel
theorem dX6_parses_53 : decode cX6_parses 53 = .ok (.aload_n 0, 1) := by decide +kernel
theorem dX6_parses_54 : decode cX6_parses 54 = .ok (.invokevirtual 44, 3) := by decide +kernel
theorem dX6_parses_57 : decode cX6_parses 57 = .ok (.putfield 48, 3) := by decide +kernel
theorem dX6_parses_60 : decode cX6_parses 60 = .ok (.aload_n 0, 1) := by decide +kernel
theorem dX6_parses_61 : decode cX6_parses 61 = .ok (.getfield 48, 3) := by decide +kernel
theorem dX6_parses_64 : decode cX6_parses 64 = .ok (.ifCond .ge 5, 3) := by decide +kernel
theorem dX6_parses_67 : decode cX6_parses 67 = .ok (.iconst 0, 1) := by decide +kernel
theorem dX6_parses_68 : decode cX6_parses 68 = .ok (.ireturn, 1) := by decide +kernel
theorem dX6_parses_69 : decode cX6_parses 69 = .ok (.aload_n 0, 1) := by decide +kernel
theorem dX6_parses_70 : decode cX6_parses 70 = .ok (.invokevirtual 30, 3) := by decide +kernel
theorem dX6_parses_73 : decode cX6_parses 73 = .ok (.aload_n 0, 1) := by decide +kernel
theorem dX6_parses_74 : decode cX6_parses 74 = .ok (.bipush 58, 2) := by decide +kernel
theorem dX6_parses_76 : decode cX6_parses 76 = .ok (.invokevirtual 40, 3) := by decide +kernel
theorem dX6_parses_79 : decode cX6_parses 79 = .ok (.ifCond .eq 26, 3) := by decide +kernel
theorem dX6_parses_82 : decode cX6_parses 82 = .ok (.aload_n 0, 1) := by decide +kernel
theorem dX6_parses_83 : decode cX6_parses 83 = .ok (.iconst 0, 1) := by decide +kernel
theorem dX6_parses_84 : decode cX6_parses 84 = .ok (.invokevirtual 51, 3) := by decide +kernel
theorem dX6_parses_87 : decode cX6_parses 87 = .ok (.ifCond .eq 18, 3) := by decide +kernel
theorem dX6_parses_90 : decode cX6_parses 90 = .ok (.aload_n 0, 1) := by decide +kernel
theorem dX6_parses_91 : decode cX6_parses 91 = .ok (.getfield 27, 3) := by decide +kernel
theorem dX6_parses_94 : decode cX6_parses 94 = .ok (.aload_n 0, 1) := by decide +kernel
theorem dX6_parses_95 : decode cX6_parses 95 = .ok (.getfield 18, 3) := by decide +kernel
theorem dX6_parses_98 : decode cX6_parses 98 = .ok (.if_icmp .ne 7, 3) := by decide +kernel
theorem dX6_parses_101 : decode cX6_parses 101 = .ok (.iconst 1, 1) := by decide +kernel
theorem dX6_parses_102 : decode cX6_parses 102 = .ok (.goto 4, 3) := by decide +kernel
theorem dX6_parses_105 : decode cX6_parses 105 = .ok (.iconst 0, 1) := by decide +kernel
theorem dX6_parses_106 : decode cX6_parses 106 = .ok (.ireturn, 1) := by decide +kernel
theorem dX6_test_0 : decode cX6_test 0 = .ok (.aload_n 0, 1) := by decide +kernel
theorem dX6_test_1 : decode cX6_test 1 = .ok (.iload_n 1, 1) := by decide +kernel
theorem dX6_test_2 : decode cX6_test 2 = .ok (.invokevirtual 54, 3) := by decide +kernel
theorem dX6_test_5 : decode cX6_test 5 = .ok (.ifCond .ne 5, 3) := by decide +kernel
theorem dX6_test_8 : decode cX6_test 8 = .ok (.iconst 0, 1) := by decide +kernel
theorem dX6_test_9 : decode cX6_test 9 = .ok (.ireturn, 1) := by decide +kernel
theorem dX6_test_10 : decode cX6_test 10 = .ok (.iconst 0, 1) := by decide +kernel
theorem dX6_test_11 : decode cX6_test 11 = .ok (.istore_n 2, 1) := by decide +kernel
theorem dX6_test_12 : decode cX6_test 12 = .ok (.iload_n 2, 1) := by decide +kernel
theorem dX6_test_13 : decode cX6_test 13 = .ok (.bipush 40, 2) := by decide +kernel
theorem dX6_test_15 : decode cX6_test 15 = .ok (.if_icmp .ge 33, 3) := by decide +kernel
theorem dX6_test_18 : decode cX6_test 18 = .ok (.aload_n 0, 1) := by decide +kernel
theorem dX6_test_19 : decode cX6_test 19 = .ok (.bipush 124, 2) := by decide +kernel
theorem dX6_test_21 : decode cX6_test 21 = .ok (.invokevirtual 40, 3) := by decide +kernel
theorem dX6_test_24 : decode cX6_test 24 = .ok (.ifCond .eq 24, 3) := by decide +kernel
theorem dX6_test_27 : decode cX6_test 27 = .ok (.aload_n 0, 1) := by decide +kernel
theorem dX6_test_28 : decode cX6_test 28 = .ok (.iload_n 1, 1) := by decide +kernel
theorem dX6_test_29 : decode cX6_test 29 = .ok (.invokevirtual 54, 3) := by decide +kernel
theorem dX6_test_32 : decode cX6_test 32 = .ok (.ifCond .ne 5, 3) := by decide +kernel
theorem dX6_test_35 : decode cX6_test 35 = .ok (.iconst 0, 1) := by decide +kernel
theorem dX6_test_36 : decode cX6_test 36 = .ok (.ireturn, 1) := by decide +kernel
theorem dX6_test_37 : decode cX6_test 37 = .ok (.aload_n 0, 1) := by decide +kernel
theorem dX6_test_38 : decode cX6_test 38 = .ok (.iconst 2, 1) := by decide +kernel
theorem dX6_test_39 : decode cX6_test 39 = .ok (.invokevirtual 57, 3) := by decide +kernel
theorem dX6_test_42 : decode cX6_test 42 = .ok (.iinc 2 1, 3) := by decide +kernel
theorem dX6_test_45 : decode cX6_test 45 = .ok (.goto (-33), 3) := by decide +kernel
theorem dX6_test_48 : decode cX6_test 48 = .ok (.iconst 1, 1) := by decide +kernel
theorem dX6_test_49 : decode cX6_test 49 = .ok (.ireturn, 1) := by decide +kernel
theorem dX6_term_0 : decode cX6_term 0 = .ok (.aload_n 0, 1) := by decide +kernel
theorem dX6_term_1 : decode cX6_term 1 = .ok (.iload_n 1, 1) := by decide +kernel
theorem dX6_term_2 : decode cX6_term 2 = .ok (.invokevirtual 61, 3) := by decide +kernel
theorem dX6_term_5 : decode cX6_term 5 = .ok (.ifCond .ne 5, 3) := by decide +kernel
theorem dX6_term_8 : decode cX6_term 8 = .ok (.iconst 0, 1) := by decide +kernel
theorem dX6_term_9 : decode cX6_term 9 = .ok (.ireturn, 1) := by decide +kernel
theorem dX6_term_10 : decode cX6_term 10 = .ok (.iconst 0, 1) := by decide +kernel
theorem dX6_term_11 : decode cX6_term 11 = .ok (.istore_n 2, 1) := by decide +kernel
theorem dX6_term_12 : decode cX6_term 12 = .ok (.iload_n 2, 1) := by decide +kernel
theorem dX6_term_13 : decode cX6_term 13 = .ok (.bipush 40, 2) := by decide +kernel
theorem dX6_term_15 : decode cX6_term 15 = .ok (.if_icmp .ge 33, 3) := by decide +kernel
theorem dX6_term_18 : decode cX6_term 18 = .ok (.aload_n 0, 1) := by decide +kernel
theorem dX6_term_19 : decode cX6_term 19 = .ok (.bipush 38, 2) := by decide +kernel
theorem dX6_term_21 : decode cX6_term 21 = .ok (.invokevirtual 40, 3) := by decide +kernel
theorem dX6_term_24 : decode cX6_term 24 = .ok (.ifCond .eq 24, 3) := by decide +kernel
theorem dX6_term_27 : decode cX6_term 27 = .ok (.aload_n 0, 1) := by decide +kernel
theorem dX6_term_28 : decode cX6_term 28 = .ok (.iload_n 1, 1) := by decide +kernel
theorem dX6_term_29 : decode cX6_term 29 = .ok (.invokevirtual 61, 3) := by decide +kernel
theorem dX6_term_32 : decode cX6_term 32 = .ok (.ifCond .ne 5, 3) := by decide +kernel
theorem dX6_term_35 : decode cX6_term 35 = .ok (.iconst 0, 1) := by decide +kernel
theorem dX6_term_36 : decode cX6_term 36 = .ok (.ireturn, 1) := by decide +kernel
theorem dX6_term_37 : decode cX6_term 37 = .ok (.aload_n 0, 1) := by decide +kernel
theorem dX6_term_38 : decode cX6_term 38 = .ok (.iconst 1, 1) := by decide +kernel
theorem dX6_term_39 : decode cX6_term 39 = .ok (.invokevirtual 57, 3) := by decide +kernel
theorem dX6_term_42 : decode cX6_term 42 = .ok (.iinc 2 1, 3) := by decide +kernel
theorem dX6_term_45 : decode cX6_term 45 = .ok (.goto (-33), 3) := by decide +kernel
theorem dX6_term_48 : decode cX6_term 48 = .ok (.iconst 1, 1) := by decide +kernel
theorem dX6_term_49 : decode cX6_term 49 = .ok (.ireturn, 1) := by decide +kernel
theorem dX6_part_0 : decode cX6_part 0 = .ok (.aload_n 0, 1) := by decide +kernel
theorem dX6_part_1 : decode cX6_part 1 = .ok (.getfield 33, 3) := by decide +kernel
theorem dX6_part_4 : decode cX6_part 4 = .ok (.bipush 33, 2) := by decide +kernel
theorem dX6_part_6 : decode cX6_part 6 = .ok (.if_icmp .ne 7, 3) := by decide +kernel
theorem dX6_part_9 : decode cX6_part 9 = .ok (.iconst 1, 1) := by decide +kernel
theorem dX6_part_10 : decode cX6_part 10 = .ok (.goto 4, 3) := by decide +kernel
theorem dX6_part_13 : decode cX6_part 13 = .ok (.iconst 0, 1) := by decide +kernel
theorem dX6_part_14 : decode cX6_part 14 = .ok (.istore_n 2, 1) := by decide +kernel
theorem dX6_part_15 : decode cX6_part 15 = .ok (.iload_n 2, 1) := by decide +kernel
theorem dX6_part_16 : decode cX6_part 16 = .ok (.ifCond .ne 17, 3) := by decide +kernel
theorem dX6_part_19 : decode cX6_part 19 = .ok (.aload_n 0, 1) := by decide +kernel
theorem dX6_part_20 : decode cX6_part 20 = .ok (.getfield 33, 3) := by decide +kernel
theorem dX6_part_23 : decode cX6_part 23 = .ok (.bipush 40, 2) := by decide +kernel
theorem dX6_part_25 : decode cX6_part 25 = .ok (.if_icmp .eq 8, 3) := by decide +kernel
theorem dX6_part_28 : decode cX6_part 28 = .ok (.aload_n 0, 1) := by decide +kernel
theorem dX6_part_29 : decode cX6_part 29 = .ok (.invokevirtual 64, 3) := by decide +kernel
theorem dX6_part_32 : decode cX6_part 32 = .ok (.ireturn, 1) := by decide +kernel
theorem dX6_part_33 : decode cX6_part 33 = .ok (.iload_n 1, 1) := by decide +kernel
theorem dX6_part_34 : decode cX6_part 34 = .ok (.iconst 4, 1) := by decide +kernel
theorem dX6_part_35 : decode cX6_part 35 = .ok (.if_icmp .lt 5, 3) := by decide +kernel
theorem dX6_part_38 : decode cX6_part 38 = .ok (.iconst 0, 1) := by decide +kernel
theorem dX6_part_39 : decode cX6_part 39 = .ok (.ireturn, 1) := by decide +kernel
theorem dX6_part_40 : decode cX6_part 40 = .ok (.aload_n 0, 1) := by decide +kernel
theorem dX6_part_41 : decode cX6_part 41 = .ok (.invokevirtual 30, 3) := by decide +kernel
theorem dX6_part_44 : decode cX6_part 44 = .ok (.iload_n 2, 1) := by decide +kernel
theorem dX6_part_45 : decode cX6_part 45 = .ok (.ifCond .ne 28, 3) := by decide +kernel
theorem dX6_part_48 : decode cX6_part 48 = .ok (.aload_n 0, 1) := by decide +kernel
theorem dX6_part_49 : decode cX6_part 49 = .ok (.iload_n 1, 1) := by decide +kernel
theorem dX6_part_50 : decode cX6_part 50 = .ok (.iconst 1, 1) := by decide +kernel
theorem dX6_part_51 : decode cX6_part 51 = .ok (.iadd, 1) := by decide +kernel
theorem dX6_part_52 : decode cX6_part 52 = .ok (.invokevirtual 51, 3) := by decide +kernel
theorem dX6_part_55 : decode cX6_part 55 = .ok (.ifCond .eq 16, 3) := by decide +kernel
theorem dX6_part_58 : decode cX6_part 58 = .ok (.aload_n 0, 1) := by decide +kernel
theorem dX6_part_59 : decode cX6_part 59 = .ok (.bipush 41, 2) := by decide +kernel
theorem dX6_part_61 : decode cX6_part 61 = .ok (.invokevirtual 40, 3) := by decide +kernel
theorem dX6_part_64 : decode cX6_part 64 = .ok (.ifCond .eq 7, 3) := by decide +kernel
theorem dX6_part_67 : decode cX6_part 67 = .ok (.iconst 1, 1) := by decide +kernel
theorem dX6_part_68 : decode cX6_part 68 = .ok (.goto 4, 3) := by decide +kernel
theorem dX6_part_71 : decode cX6_part 71 = .ok (.iconst 0, 1) := by decide +kernel
theorem dX6_part_72 : decode cX6_part 72 = .ok (.ireturn, 1) := by decide +kernel
theorem dX6_part_73 : decode cX6_part 73 = .ok (.aload_n 0, 1) := by decide +kernel
theorem dX6_part_74 : decode cX6_part 74 = .ok (.iload_n 1, 1) := by decide +kernel
theorem dX6_part_75 : decode cX6_part 75 = .ok (.iconst 1, 1) := by decide +kernel
theorem dX6_part_76 : decode cX6_part 76 = .ok (.iadd, 1) := by decide +kernel
theorem dX6_part_77 : decode cX6_part 77 = .ok (.invokevirtual 61, 3) := by decide +kernel
theorem dX6_part_80 : decode cX6_part 80 = .ok (.ifCond .ne 5, 3) := by decide +kernel
theorem dX6_part_83 : decode cX6_part 83 = .ok (.iconst 0, 1) := by decide +kernel
theorem dX6_part_84 : decode cX6_part 84 = .ok (.ireturn, 1) := by decide +kernel
theorem dX6_part_85 : decode cX6_part 85 = .ok (.aload_n 0, 1) := by decide +kernel
theorem dX6_part_86 : decode cX6_part 86 = .ok (.iconst 0, 1) := by decide +kernel
theorem dX6_part_87 : decode cX6_part 87 = .ok (.invokevirtual 57, 3) := by decide +kernel
theorem dX6_part_90 : decode cX6_part 90 = .ok (.iconst 1, 1) := by decide +kernel
theorem dX6_part_91 : decode cX6_part 91 = .ok (.ireturn, 1) := by decide +kernel
theorem dX6_comparison_0 : decode cX6_comparison 0 = .ok (.aload_n 0, 1) := by decide +kernel
theorem dX6_comparison_1 : decode cX6_comparison 1 = .ok (.bipush 114, 2) := by decide +kernel
theorem dX6_comparison_3 : decode cX6_comparison 3 = .ok (.bipush 119, 2) := by decide +kernel
theorem dX6_comparison_5 : decode cX6_comparison 5 = .ok (.bipush 118, 2) := by decide +kernel
theorem dX6_comparison_7 : decode cX6_comparison 7 = .ok (.bipush 112, 2) := by decide +kernel
theorem dX6_comparison_9 : decode cX6_comparison 9 = .ok (.bipush 116, 2) := by decide +kernel
theorem dX6_comparison_11 : decode cX6_comparison 11 = .ok (.invokevirtual 68, 3) := by decide +kernel
theorem dX6_comparison_14 : decode cX6_comparison 14 = .ok (.istore_n 1, 1) := by decide +kernel
theorem dX6_comparison_15 : decode cX6_comparison 15 = .ok (.iload_n 1, 1) := by decide +kernel
theorem dX6_comparison_16 : decode cX6_comparison 16 = .ok (.ifCond .ge 5, 3) := by decide +kernel
theorem dX6_comparison_19 : decode cX6_comparison 19 = .ok (.iconst 0, 1) := by decide +kernel
theorem dX6_comparison_20 : decode cX6_comparison 20 = .ok (.ireturn, 1) := by decide +kernel
theorem dX6_comparison_21 : decode cX6_comparison 21 = .ok (.aload_n 0, 1) := by decide +kernel
theorem dX6_comparison_22 : decode cX6_comparison 22 = .ok (.invokevirtual 30, 3) := by decide +kernel
theorem dX6_comparison_25 : decode cX6_comparison 25 = .ok (.iconst 0, 1) := by decide +kernel
theorem dX6_comparison_26 : decode cX6_comparison 26 = .ok (.istore_n 2, 1) := by decide +kernel
theorem dX6_comparison_27 : decode cX6_comparison 27 = .ok (.iload_n 1, 1) := by decide +kernel
theorem dX6_comparison_28 : decode cX6_comparison 28 = .ok (.iconst 4, 1) := by decide +kernel
theorem dX6_comparison_29 : decode cX6_comparison 29 = .ok (.if_icmp .eq 18, 3) := by decide +kernel
theorem dX6_comparison_32 : decode cX6_comparison 32 = .ok (.aload_n 0, 1) := by decide +kernel
theorem dX6_comparison_33 : decode cX6_comparison 33 = .ok (.invokevirtual 44, 3) := by decide +kernel
theorem dX6_comparison_36 : decode cX6_comparison 36 = .ok (.istore_n 2, 1) := by decide +kernel
theorem dX6_comparison_37 : decode cX6_comparison 37 = .ok (.iload_n 2, 1) := by decide +kernel
theorem dX6_comparison_38 : decode cX6_comparison 38 = .ok (.ifCond .ge 5, 3) := by decide +kernel
theorem dX6_comparison_41 : decode cX6_comparison 41 = .ok (.iconst 0, 1) := by decide +kernel
theorem dX6_comparison_42 : decode cX6_comparison 42 = .ok (.ireturn, 1) := by decide +kernel
theorem dX6_comparison_43 : decode cX6_comparison 43 = .ok (.aload_n 0, 1) := by decide +kernel
theorem dX6_comparison_44 : decode cX6_comparison 44 = .ok (.invokevirtual 30, 3) := by decide +kernel
theorem dX6_comparison_47 : decode cX6_comparison 47 = .ok (.aload_n 0, 1) := by decide +kernel
theorem dX6_comparison_48 : decode cX6_comparison 48 = .ok (.bipush 60, 2) := by decide +kernel
theorem dX6_comparison_50 : decode cX6_comparison 50 = .ok (.bipush 61, 2) := by decide +kernel
theorem dX6_comparison_52 : decode cX6_comparison 52 = .ok (.bipush 62, 2) := by decide +kernel
theorem dX6_comparison_54 : decode cX6_comparison 54 = .ok (.bipush 62, 2) := by decide +kernel
theorem dX6_comparison_56 : decode cX6_comparison 56 = .ok (.bipush 62, 2) := by decide +kernel
theorem dX6_comparison_58 : decode cX6_comparison 58 = .ok (.invokevirtual 68, 3) := by decide +kernel
theorem dX6_comparison_61 : decode cX6_comparison 61 = .ok (.istore_n 3, 1) := by decide +kernel
theorem dX6_comparison_62 : decode cX6_comparison 62 = .ok (.iload_n 3, 1) := by decide +kernel
theorem dX6_comparison_63 : decode cX6_comparison 63 = .ok (.ifCond .ge 5, 3) := by decide +kernel
theorem dX6_comparison_66 : decode cX6_comparison 66 = .ok (.iconst 0, 1) := by decide +kernel
theorem dX6_comparison_67 : decode cX6_comparison 67 = .ok (.ireturn, 1) := by decide +kernel
theorem dX6_comparison_68 : decode cX6_comparison 68 = .ok (.aload_n 0, 1) := by decide +kernel
theorem dX6_comparison_69 : decode cX6_comparison 69 = .ok (.invokevirtual 30, 3) := by decide +kernel
theorem dX6_comparison_72 : decode cX6_comparison 72 = .ok (.aload_n 0, 1) := by decide +kernel
theorem dX6_comparison_73 : decode cX6_comparison 73 = .ok (.invokevirtual 74, 3) := by decide +kernel
theorem dX6_comparison_76 : decode cX6_comparison 76 = .ok (.istore 4, 2) := by decide +kernel
theorem dX6_comparison_78 : decode cX6_comparison 78 = .ok (.iload 4, 2) := by decide +kernel
theorem dX6_comparison_80 : decode cX6_comparison 80 = .ok (.ifCond .ge 5, 3) := by decide +kernel
theorem dX6_comparison_83 : decode cX6_comparison 83 = .ok (.iconst 0, 1) := by decide +kernel
theorem dX6_comparison_84 : decode cX6_comparison 84 = .ok (.ireturn, 1) := by decide +kernel
theorem dX6_comparison_85 : decode cX6_comparison 85 = .ok (.aload_n 0, 1) := by decide +kernel
theorem dX6_comparison_86 : decode cX6_comparison 86 = .ok (.iconst 3, 1) := by decide +kernel
theorem dX6_comparison_87 : decode cX6_comparison 87 = .ok (.iload_n 1, 1) := by decide +kernel
theorem dX6_comparison_88 : decode cX6_comparison 88 = .ok (.iconst 2, 1) := by decide +kernel
theorem dX6_comparison_89 : decode cX6_comparison 89 = .ok (.ishl, 1) := by decide +kernel
theorem dX6_comparison_90 : decode cX6_comparison 90 = .ok (.ior, 1) := by decide +kernel
theorem dX6_comparison_91 : decode cX6_comparison 91 = .ok (.iload_n 2, 1) := by decide +kernel
theorem dX6_comparison_92 : decode cX6_comparison 92 = .ok (.iconst 5, 1) := by decide +kernel
theorem dX6_comparison_93 : decode cX6_comparison 93 = .ok (.ishl, 1) := by decide +kernel
theorem dX6_comparison_94 : decode cX6_comparison 94 = .ok (.ior, 1) := by decide +kernel
theorem dX6_comparison_95 : decode cX6_comparison 95 = .ok (.iload_n 3, 1) := by decide +kernel
theorem dX6_comparison_96 : decode cX6_comparison 96 = .ok (.bipush 9, 2) := by decide +kernel
theorem dX6_comparison_98 : decode cX6_comparison 98 = .ok (.ishl, 1) := by decide +kernel
theorem dX6_comparison_99 : decode cX6_comparison 99 = .ok (.ior, 1) := by decide +kernel
theorem dX6_comparison_100 : decode cX6_comparison 100 = .ok (.iload 4, 2) := by decide +kernel
theorem dX6_comparison_102 : decode cX6_comparison 102 = .ok (.bipush 11, 2) := by decide +kernel
theorem dX6_comparison_104 : decode cX6_comparison 104 = .ok (.ishl, 1) := by decide +kernel
theorem dX6_comparison_105 : decode cX6_comparison 105 = .ok (.ior, 1) := by decide +kernel
theorem dX6_comparison_106 : decode cX6_comparison 106 = .ok (.invokevirtual 57, 3) := by decide +kernel
theorem dX6_comparison_109 : decode cX6_comparison 109 = .ok (.iconst 1, 1) := by decide +kernel
theorem dX6_comparison_110 : decode cX6_comparison 110 = .ok (.ireturn, 1) := by decide +kernel
theorem dX6_number_0 : decode cX6_number 0 = .ok (.aload_n 0, 1) := by decide +kernel
theorem dX6_number_1 : decode cX6_number 1 = .ok (.invokevirtual 44, 3) := by decide +kernel
theorem dX6_number_4 : decode cX6_number 4 = .ok (.istore_n 1, 1) := by decide +kernel
theorem dX6_number_5 : decode cX6_number 5 = .ok (.iload_n 1, 1) := by decide +kernel
theorem dX6_number_6 : decode cX6_number 6 = .ok (.ifCond .ge 5, 3) := by decide +kernel
theorem dX6_number_9 : decode cX6_number 9 = .ok (.iconst (-1), 1) := by decide +kernel
theorem dX6_number_10 : decode cX6_number 10 = .ok (.ireturn, 1) := by decide +kernel
theorem dX6_number_11 : decode cX6_number 11 = .ok (.aload_n 0, 1) := by decide +kernel
theorem dX6_number_12 : decode cX6_number 12 = .ok (.invokevirtual 30, 3) := by decide +kernel
theorem dX6_number_15 : decode cX6_number 15 = .ok (.iconst 1, 1) := by decide +kernel
theorem dX6_number_16 : decode cX6_number 16 = .ok (.istore_n 2, 1) := by decide +kernel
theorem dX6_number_17 : decode cX6_number 17 = .ok (.iload_n 2, 1) := by decide +kernel
theorem dX6_number_18 : decode cX6_number 18 = .ok (.iconst 5, 1) := by decide +kernel
theorem dX6_number_19 : decode cX6_number 19 = .ok (.if_icmp .ge 30, 3) := by decide +kernel
theorem dX6_number_22 : decode cX6_number 22 = .ok (.aload_n 0, 1) := by decide +kernel
theorem dX6_number_23 : decode cX6_number 23 = .ok (.invokevirtual 44, 3) := by decide +kernel
theorem dX6_number_26 : decode cX6_number 26 = .ok (.ifCond .lt 23, 3) := by decide +kernel
theorem dX6_number_29 : decode cX6_number 29 = .ok (.iload_n 1, 1) := by decide +kernel
theorem dX6_number_30 : decode cX6_number 30 = .ok (.bipush 10, 2) := by decide +kernel
theorem dX6_number_32 : decode cX6_number 32 = .ok (.imul, 1) := by decide +kernel
theorem dX6_number_33 : decode cX6_number 33 = .ok (.aload_n 0, 1) := by decide +kernel
theorem dX6_number_34 : decode cX6_number 34 = .ok (.invokevirtual 44, 3) := by decide +kernel
theorem dX6_number_37 : decode cX6_number 37 = .ok (.iadd, 1) := by decide +kernel
theorem dX6_number_38 : decode cX6_number 38 = .ok (.istore_n 1, 1) := by decide +kernel
theorem dX6_number_39 : decode cX6_number 39 = .ok (.aload_n 0, 1) := by decide +kernel
theorem dX6_number_40 : decode cX6_number 40 = .ok (.invokevirtual 30, 3) := by decide +kernel
theorem dX6_number_43 : decode cX6_number 43 = .ok (.iinc 2 1, 3) := by decide +kernel
theorem dX6_number_46 : decode cX6_number 46 = .ok (.goto (-29), 3) := by decide +kernel
theorem dX6_number_49 : decode cX6_number 49 = .ok (.iload_n 1, 1) := by decide +kernel
theorem dX6_number_50 : decode cX6_number 50 = .ok (.ireturn, 1) := by decide +kernel
theorem dX6_among_0 : decode cX6_among 0 = .ok (.aload_n 0, 1) := by decide +kernel
theorem dX6_among_1 : decode cX6_among 1 = .ok (.getfield 33, 3) := by decide +kernel
theorem dX6_among_4 : decode cX6_among 4 = .ok (.iload_n 1, 1) := by decide +kernel
theorem dX6_among_5 : decode cX6_among 5 = .ok (.if_icmp .ne 5, 3) := by decide +kernel
theorem dX6_among_8 : decode cX6_among 8 = .ok (.iconst 0, 1) := by decide +kernel
theorem dX6_among_9 : decode cX6_among 9 = .ok (.ireturn, 1) := by decide +kernel
theorem dX6_among_10 : decode cX6_among 10 = .ok (.aload_n 0, 1) := by decide +kernel
theorem dX6_among_11 : decode cX6_among 11 = .ok (.getfield 33, 3) := by decide +kernel
theorem dX6_among_14 : decode cX6_among 14 = .ok (.iload_n 2, 1) := by decide +kernel
theorem dX6_among_15 : decode cX6_among 15 = .ok (.if_icmp .ne 5, 3) := by decide +kernel
theorem dX6_among_18 : decode cX6_among 18 = .ok (.iconst 1, 1) := by decide +kernel
theorem dX6_among_19 : decode cX6_among 19 = .ok (.ireturn, 1) := by decide +kernel
theorem dX6_among_20 : decode cX6_among 20 = .ok (.aload_n 0, 1) := by decide +kernel
theorem dX6_among_21 : decode cX6_among 21 = .ok (.getfield 33, 3) := by decide +kernel
theorem dX6_among_24 : decode cX6_among 24 = .ok (.iload_n 3, 1) := by decide +kernel
theorem dX6_among_25 : decode cX6_among 25 = .ok (.if_icmp .ne 5, 3) := by decide +kernel
theorem dX6_among_28 : decode cX6_among 28 = .ok (.iconst 2, 1) := by decide +kernel
theorem dX6_among_29 : decode cX6_among 29 = .ok (.ireturn, 1) := by decide +kernel
theorem dX6_among_30 : decode cX6_among 30 = .ok (.aload_n 0, 1) := by decide +kernel
theorem dX6_among_31 : decode cX6_among 31 = .ok (.getfield 33, 3) := by decide +kernel
theorem dX6_among_34 : decode cX6_among 34 = .ok (.iload 4, 2) := by decide +kernel
theorem dX6_among_36 : decode cX6_among 36 = .ok (.if_icmp .ne 5, 3) := by decide +kernel
theorem dX6_among_39 : decode cX6_among 39 = .ok (.iconst 3, 1) := by decide +kernel
theorem dX6_among_40 : decode cX6_among 40 = .ok (.ireturn, 1) := by decide +kernel
theorem dX6_among_41 : decode cX6_among 41 = .ok (.aload_n 0, 1) := by decide +kernel
theorem dX6_among_42 : decode cX6_among 42 = .ok (.getfield 33, 3) := by decide +kernel
theorem dX6_among_45 : decode cX6_among 45 = .ok (.iload 5, 2) := by decide +kernel
theorem dX6_among_47 : decode cX6_among 47 = .ok (.if_icmp .ne 7, 3) := by decide +kernel
theorem dX6_among_50 : decode cX6_among 50 = .ok (.iconst 4, 1) := by decide +kernel
theorem dX6_among_51 : decode cX6_among 51 = .ok (.goto 4, 3) := by decide +kernel
theorem dX6_among_54 : decode cX6_among 54 = .ok (.iconst (-1), 1) := by decide +kernel
theorem dX6_among_55 : decode cX6_among 55 = .ok (.ireturn, 1) := by decide +kernel
theorem dX6_digit_0 : decode cX6_digit 0 = .ok (.aload_n 0, 1) := by decide +kernel
theorem dX6_digit_1 : decode cX6_digit 1 = .ok (.getfield 33, 3) := by decide +kernel
theorem dX6_digit_4 : decode cX6_digit 4 = .ok (.bipush 48, 2) := by decide +kernel
theorem dX6_digit_6 : decode cX6_digit 6 = .ok (.if_icmp .lt 22, 3) := by decide +kernel
theorem dX6_digit_9 : decode cX6_digit 9 = .ok (.aload_n 0, 1) := by decide +kernel
theorem dX6_digit_10 : decode cX6_digit 10 = .ok (.getfield 33, 3) := by decide +kernel
theorem dX6_digit_13 : decode cX6_digit 13 = .ok (.bipush 57, 2) := by decide +kernel
theorem dX6_digit_15 : decode cX6_digit 15 = .ok (.if_icmp .gt 13, 3) := by decide +kernel
theorem dX6_digit_18 : decode cX6_digit 18 = .ok (.aload_n 0, 1) := by decide +kernel
theorem dX6_digit_19 : decode cX6_digit 19 = .ok (.getfield 33, 3) := by decide +kernel
theorem dX6_digit_22 : decode cX6_digit 22 = .ok (.bipush 48, 2) := by decide +kernel
theorem dX6_digit_24 : decode cX6_digit 24 = .ok (.isub, 1) := by decide +kernel
theorem dX6_digit_25 : decode cX6_digit 25 = .ok (.goto 4, 3) := by decide +kernel
theorem dX6_digit_28 : decode cX6_digit 28 = .ok (.iconst (-1), 1) := by decide +kernel
theorem dX6_digit_29 : decode cX6_digit 29 = .ok (.ireturn, 1) := by decide +kernel
theorem dX6_skip_0 : decode cX6_skip 0 = .ok (.aload_n 0, 1) := by decide +kernel
theorem dX6_skip_1 : decode cX6_skip 1 = .ok (.getfield 33, 3) := by decide +kernel
theorem dX6_skip_4 : decode cX6_skip 4 = .ok (.iload_n 1, 1) := by decide +kernel
theorem dX6_skip_5 : decode cX6_skip 5 = .ok (.if_icmp .eq 5, 3) := by decide +kernel
theorem dX6_skip_8 : decode cX6_skip 8 = .ok (.iconst 0, 1) := by decide +kernel
theorem dX6_skip_9 : decode cX6_skip 9 = .ok (.ireturn, 1) := by decide +kernel
theorem dX6_skip_10 : decode cX6_skip 10 = .ok (.aload_n 0, 1) := by decide +kernel
theorem dX6_skip_11 : decode cX6_skip 11 = .ok (.invokevirtual 30, 3) := by decide +kernel
theorem dX6_skip_14 : decode cX6_skip 14 = .ok (.iconst 1, 1) := by decide +kernel
theorem dX6_skip_15 : decode cX6_skip 15 = .ok (.ireturn, 1) := by decide +kernel
theorem dX6_go_0 : decode cX6_go 0 = .ok (.aload_n 0, 1) := by decide +kernel
theorem dX6_go_1 : decode cX6_go 1 = .ok (.dup, 1) := by decide +kernel
theorem dX6_go_2 : decode cX6_go 2 = .ok (.getfield 27, 3) := by decide +kernel
theorem dX6_go_5 : decode cX6_go 5 = .ok (.iconst 1, 1) := by decide +kernel
theorem dX6_go_6 : decode cX6_go 6 = .ok (.iadd, 1) := by decide +kernel
theorem dX6_go_7 : decode cX6_go 7 = .ok (.putfield 27, 3) := by decide +kernel
theorem dX6_go_10 : decode cX6_go 10 = .ok (.aload_n 0, 1) := by decide +kernel
theorem dX6_go_11 : decode cX6_go 11 = .ok (.aload_n 0, 1) := by decide +kernel
theorem dX6_go_12 : decode cX6_go 12 = .ok (.getfield 27, 3) := by decide +kernel
theorem dX6_go_15 : decode cX6_go 15 = .ok (.ifCond .lt 35, 3) := by decide +kernel
theorem dX6_go_18 : decode cX6_go 18 = .ok (.aload_n 0, 1) := by decide +kernel
theorem dX6_go_19 : decode cX6_go 19 = .ok (.getfield 27, 3) := by decide +kernel
theorem dX6_go_22 : decode cX6_go 22 = .ok (.aload_n 0, 1) := by decide +kernel
theorem dX6_go_23 : decode cX6_go 23 = .ok (.getfield 18, 3) := by decide +kernel
theorem dX6_go_26 : decode cX6_go 26 = .ok (.if_icmp .ge 24, 3) := by decide +kernel
theorem dX6_go_29 : decode cX6_go 29 = .ok (.aload_n 0, 1) := by decide +kernel
theorem dX6_go_30 : decode cX6_go 30 = .ok (.getfield 27, 3) := by decide +kernel
theorem dX6_go_33 : decode cX6_go 33 = .ok (.bipush 40, 2) := by decide +kernel
theorem dX6_go_35 : decode cX6_go 35 = .ok (.if_icmp .ge 15, 3) := by decide +kernel
theorem dX6_go_38 : decode cX6_go 38 = .ok (.aload_n 0, 1) := by decide +kernel
theorem dX6_go_39 : decode cX6_go 39 = .ok (.getfield 9, 3) := by decide +kernel
theorem dX6_go_42 : decode cX6_go 42 = .ok (.aload_n 0, 1) := by decide +kernel
theorem dX6_go_43 : decode cX6_go 43 = .ok (.getfield 27, 3) := by decide +kernel
theorem dX6_go_46 : decode cX6_go 46 = .ok (.iaload, 1) := by decide +kernel
theorem dX6_go_47 : decode cX6_go 47 = .ok (.goto 4, 3) := by decide +kernel
theorem dX6_go_50 : decode cX6_go 50 = .ok (.iconst (-1), 1) := by decide +kernel
theorem dX6_go_51 : decode cX6_go 51 = .ok (.putfield 33, 3) := by decide +kernel
theorem dX6_go_54 : decode cX6_go 54 = .ok (.return_, 1) := by decide +kernel
theorem dX6_add_0 : decode cX6_add 0 = .ok (.aload_n 0, 1) := by decide +kernel
theorem dX6_add_1 : decode cX6_add 1 = .ok (.getfield 24, 3) := by decide +kernel
theorem dX6_add_4 : decode cX6_add 4 = .ok (.bipush 40, 2) := by decide +kernel
theorem dX6_add_6 : decode cX6_add 6 = .ok (.if_icmp .ge 23, 3) := by decide +kernel
theorem dX6_add_9 : decode cX6_add 9 = .ok (.aload_n 0, 1) := by decide +kernel
theorem dX6_add_10 : decode cX6_add 10 = .ok (.getfield 15, 3) := by decide +kernel
theorem dX6_add_13 : decode cX6_add 13 = .ok (.aload_n 0, 1) := by decide +kernel
theorem dX6_add_14 : decode cX6_add 14 = .ok (.getfield 24, 3) := by decide +kernel
theorem dX6_add_17 : decode cX6_add 17 = .ok (.iload_n 1, 1) := by decide +kernel
theorem dX6_add_18 : decode cX6_add 18 = .ok (.iastore, 1) := by decide +kernel
theorem dX6_add_19 : decode cX6_add 19 = .ok (.aload_n 0, 1) := by decide +kernel
theorem dX6_add_20 : decode cX6_add 20 = .ok (.dup, 1) := by decide +kernel
theorem dX6_add_21 : decode cX6_add 21 = .ok (.getfield 24, 3) := by decide +kernel
theorem dX6_add_24 : decode cX6_add 24 = .ok (.iconst 1, 1) := by decide +kernel
theorem dX6_add_25 : decode cX6_add 25 = .ok (.iadd, 1) := by decide +kernel
theorem dX6_add_26 : decode cX6_add 26 = .ok (.putfield 24, 3) := by decide +kernel
theorem dX6_add_29 : decode cX6_add 29 = .ok (.return_, 1) := by decide +kernel
theorem dX7_init_0 : decode cX7_init 0 = .ok (.aload_n 0, 1) := by decide +kernel
theorem dX7_init_1 : decode cX7_init 1 = .ok (.invokespecial 3, 3) := by decide +kernel
theorem dX7_init_4 : decode cX7_init 4 = .ok (.aload_n 0, 1) := by decide +kernel
theorem dX7_init_5 : decode cX7_init 5 = .ok (.iconst 5, 1) := by decide +kernel
theorem dX7_init_6 : decode cX7_init 6 = .ok (.newarray .int, 2) := by decide +kernel
theorem dX7_init_8 : decode cX7_init 8 = .ok (.putfield 9, 3) := by decide +kernel
theorem dX7_init_11 : decode cX7_init 11 = .ok (.aload_n 0, 1) := by decide +kernel
theorem dX7_init_12 : decode cX7_init 12 = .ok (.iconst 5, 1) := by decide +kernel
theorem dX7_init_13 : decode cX7_init 13 = .ok (.newarray .int, 2) := by decide +kernel
theorem dX7_init_15 : decode cX7_init 15 = .ok (.putfield 15, 3) := by decide +kernel
theorem dX7_init_18 : decode cX7_init 18 = .ok (.aload_n 0, 1) := by decide +kernel
theorem dX7_init_19 : decode cX7_init 19 = .ok (.bipush 25, 2) := by decide +kernel
theorem dX7_init_21 : decode cX7_init 21 = .ok (.newarray .long, 2) := by decide +kernel
theorem dX7_init_23 : decode cX7_init 23 = .ok (.putfield 18, 3) := by decide +kernel
theorem dX7_init_26 : decode cX7_init 26 = .ok (.aload_n 0, 1) := by decide +kernel
theorem dX7_init_27 : decode cX7_init 27 = .ok (.iconst 5, 1) := by decide +kernel
theorem dX7_init_28 : decode cX7_init 28 = .ok (.newarray .long, 2) := by decide +kernel
theorem dX7_init_30 : decode cX7_init 30 = .ok (.putfield 22, 3) := by decide +kernel
theorem dX7_init_33 : decode cX7_init 33 = .ok (.aload_n 0, 1) := by decide +kernel
theorem dX7_init_34 : decode cX7_init 34 = .ok (.bipush 32, 2) := by decide +kernel
theorem dX7_init_36 : decode cX7_init 36 = .ok (.newarray .long, 2) := by decide +kernel
theorem dX7_init_38 : decode cX7_init 38 = .ok (.putfield 25, 3) := by decide +kernel
theorem dX7_init_41 : decode cX7_init 41 = .ok (.aload_n 0, 1) := by decide +kernel
theorem dX7_init_42 : decode cX7_init 42 = .ok (.bipush 6, 2) := by decide +kernel
theorem dX7_init_44 : decode cX7_init 44 = .ok (.newarray .int, 2) := by decide +kernel
theorem dX7_init_46 : decode cX7_init 46 = .ok (.putfield 28, 3) := by decide +kernel
theorem dX7_init_49 : decode cX7_init 49 = .ok (.aload_n 0, 1) := by decide +kernel
theorem dX7_init_50 : decode cX7_init 50 = .ok (.bipush 6, 2) := by decide +kernel
theorem dX7_init_52 : decode cX7_init 52 = .ok (.newarray .int, 2) := by decide +kernel
theorem dX7_init_54 : decode cX7_init 54 = .ok (.putfield 31, 3) := by decide +kernel
theorem dX7_init_57 : decode cX7_init 57 = .ok (.aload_n 0, 1) := by decide +kernel
theorem dX7_init_58 : decode cX7_init 58 = .ok (.bipush 6, 2) := by decide +kernel
theorem dX7_init_60 : decode cX7_init 60 = .ok (.newarray .int, 2) := by decide +kernel
theorem dX7_init_62 : decode cX7_init 62 = .ok (.putfield 34, 3) := by decide +kernel
theorem dX7_init_65 : decode cX7_init 65 = .ok (.aload_n 0, 1) := by decide +kernel
theorem dX7_init_66 : decode cX7_init 66 = .ok (.aload_n 1, 1) := by decide +kernel
theorem dX7_init_67 : decode cX7_init 67 = .ok (.putfield 37, 3) := by decide +kernel
theorem dX7_init_70 : decode cX7_init 70 = .ok (.return_, 1) := by decide +kernel
theorem dX7_addOffer_0 : decode cX7_addOffer 0 = .ok (.aload_n 0, 1) := by decide +kernel
theorem dX7_addOffer_1 : decode cX7_addOffer 1 = .ok (.getfield 41, 3) := by decide +kernel
theorem dX7_addOffer_4 : decode cX7_addOffer 4 = .ok (.bipush 6, 2) := by decide +kernel
theorem dX7_addOffer_6 : decode cX7_addOffer 6 = .ok (.if_icmp .ge 43, 3) := by decide +kernel
theorem dX7_addOffer_9 : decode cX7_addOffer 9 = .ok (.aload_n 0, 1) := by decide +kernel
theorem dX7_addOffer_10 : decode cX7_addOffer 10 = .ok (.getfield 28, 3) := by decide +kernel
theorem dX7_addOffer_13 : decode cX7_addOffer 13 = .ok (.aload_n 0, 1) := by decide +kernel
theorem dX7_addOffer_14 : decode cX7_addOffer 14 = .ok (.getfield 41, 3) := by decide +kernel
theorem dX7_addOffer_17 : decode cX7_addOffer 17 = .ok (.iload_n 1, 1) := by decide +kernel
theorem dX7_addOffer_18 : decode cX7_addOffer 18 = .ok (.iastore, 1) := by decide +kernel
theorem dX7_addOffer_19 : decode cX7_addOffer 19 = .ok (.aload_n 0, 1) := by decide +kernel
theorem dX7_addOffer_20 : decode cX7_addOffer 20 = .ok (.getfield 31, 3) := by decide +kernel
theorem dX7_addOffer_23 : decode cX7_addOffer 23 = .ok (.aload_n 0, 1) := by decide +kernel
theorem dX7_addOffer_24 : decode cX7_addOffer 24 = .ok (.getfield 41, 3) := by decide +kernel
theorem dX7_addOffer_27 : decode cX7_addOffer 27 = .ok (.iload_n 2, 1) := by decide +kernel
theorem dX7_addOffer_28 : decode cX7_addOffer 28 = .ok (.iastore, 1) := by decide +kernel
theorem dX7_addOffer_29 : decode cX7_addOffer 29 = .ok (.aload_n 0, 1) := by decide +kernel
theorem dX7_addOffer_30 : decode cX7_addOffer 30 = .ok (.getfield 34, 3) := by decide +kernel
theorem dX7_addOffer_33 : decode cX7_addOffer 33 = .ok (.aload_n 0, 1) := by decide +kernel
theorem dX7_addOffer_34 : decode cX7_addOffer 34 = .ok (.getfield 41, 3) := by decide +kernel
theorem dX7_addOffer_37 : decode cX7_addOffer 37 = .ok (.iload_n 3, 1) := by decide +kernel
theorem dX7_addOffer_38 : decode cX7_addOffer 38 = .ok (.iastore, 1) := by decide +kernel
theorem dX7_addOffer_39 : decode cX7_addOffer 39 = .ok (.aload_n 0, 1) := by decide +kernel
theorem dX7_addOffer_40 : decode cX7_addOffer 40 = .ok (.dup, 1) := by decide +kernel
theorem dX7_addOffer_41 : decode cX7_addOffer 41 = .ok (.getfield 41, 3) := by decide +kernel
theorem dX7_addOffer_44 : decode cX7_addOffer 44 = .ok (.iconst 1, 1) := by decide +kernel
theorem dX7_addOffer_45 : decode cX7_addOffer 45 = .ok (.iadd, 1) := by decide +kernel
theorem dX7_addOffer_46 : decode cX7_addOffer 46 = .ok (.putfield 41, 3) := by decide +kernel
theorem dX7_addOffer_49 : decode cX7_addOffer 49 = .ok (.aload_n 0, 1) := by decide +kernel
theorem dX7_addOffer_50 : decode cX7_addOffer 50 = .ok (.getfield 41, 3) := by decide +kernel
theorem dX7_addOffer_53 : decode cX7_addOffer 53 = .ok (.ireturn, 1) := by decide +kernel
theorem dX7_fraction_0 : decode cX7_fraction 0 = .ok (.aload_n 0, 1) := by decide +kernel
theorem dX7_fraction_1 : decode cX7_fraction 1 = .ok (.invokevirtual 45, 3) := by decide +kernel
theorem dX7_fraction_4 : decode cX7_fraction 4 = .ok (.aload_n 0, 1) := by decide +kernel
theorem dX7_fraction_5 : decode cX7_fraction 5 = .ok (.iload_n 2, 1) := by decide +kernel
theorem dX7_fraction_6 : decode cX7_fraction 6 = .ok (.iconst 0, 1) := by decide +kernel
theorem dX7_fraction_7 : decode cX7_fraction 7 = .ok (.invokevirtual 48, 3) := by decide +kernel
theorem dX7_fraction_10 : decode cX7_fraction 10 = .ok (.aload_n 0, 1) := by decide +kernel
theorem dX7_fraction_11 : decode cX7_fraction 11 = .ok (.iload_n 1, 1) := by decide +kernel
theorem dX7_fraction_12 : decode cX7_fraction 12 = .ok (.invokevirtual 52, 3) := by decide +kernel
theorem dX7_fraction_15 : decode cX7_fraction 15 = .ok (.ifCond .eq 7, 3) := by decide +kernel
theorem dX7_fraction_18 : decode cX7_fraction 18 = .ok (.ldc2_w 56, 3) := by decide +kernel
theorem dX7_fraction_21 : decode cX7_fraction 21 = .ok (.lreturn, 1) := by decide +kernel
theorem dX7_fraction_22 : decode cX7_fraction 22 = .ok (.aload_n 0, 1) := by decide +kernel
theorem dX7_fraction_23 : decode cX7_fraction 23 = .ok (.iload_n 2, 1) := by decide +kernel
theorem dX7_fraction_24 : decode cX7_fraction 24 = .ok (.invokevirtual 58, 3) := by decide +kernel
theorem dX7_fraction_27 : decode cX7_fraction 27 = .ok (.aload_n 0, 1) := by decide +kernel
theorem dX7_fraction_28 : decode cX7_fraction 28 = .ok (.iload_n 1, 1) := by decide +kernel
theorem dX7_fraction_29 : decode cX7_fraction 29 = .ok (.invokevirtual 62, 3) := by decide +kernel
theorem dX7_fraction_32 : decode cX7_fraction 32 = .ok (.lstore 4, 2) := by decide +kernel
theorem dX7_fraction_34 : decode cX7_fraction 34 = .ok (.aload_n 0, 1) := by decide +kernel
theorem dX7_fraction_35 : decode cX7_fraction 35 = .ok (.iconst (-1), 1) := by decide +kernel
theorem dX7_fraction_36 : decode cX7_fraction 36 = .ok (.invokevirtual 62, 3) := by decide +kernel
theorem dX7_fraction_39 : decode cX7_fraction 39 = .ok (.lstore 6, 2) := by decide +kernel
theorem dX7_fraction_41 : decode cX7_fraction 41 = .ok (.lload 4, 2) := by decide +kernel
theorem dX7_fraction_43 : decode cX7_fraction 43 = .ok (.lload 6, 2) := by decide +kernel
theorem dX7_fraction_45 : decode cX7_fraction 45 = .ok (.invokestatic 66, 3) := by decide +kernel
theorem dX7_fraction_48 : decode cX7_fraction 48 = .ok (.lstore 8, 2) := by decide +kernel
theorem dX7_fraction_50 : decode cX7_fraction 50 = .ok (.lload 8, 2) := by decide +kernel
theorem dX7_fraction_52 : decode cX7_fraction 52 = .ok (.lconst 0, 1) := by decide +kernel
theorem dX7_fraction_53 : decode cX7_fraction 53 = .ok (.lcmp, 1) := by decide +kernel
theorem dX7_fraction_54 : decode cX7_fraction 54 = .ok (.ifCond .ne 7, 3) := by decide +kernel
theorem dX7_fraction_57 : decode cX7_fraction 57 = .ok (.ldc2_w 56, 3) := by decide +kernel
theorem dX7_fraction_60 : decode cX7_fraction 60 = .ok (.lreturn, 1) := by decide +kernel
theorem dX7_fraction_61 : decode cX7_fraction 61 = .ok (.iload_n 3, 1) := by decide +kernel
theorem dX7_fraction_62 : decode cX7_fraction 62 = .ok (.ifCond .ne 8, 3) := by decide +kernel
theorem dX7_fraction_65 : decode cX7_fraction 65 = .ok (.lload 4, 2) := by decide +kernel
theorem dX7_fraction_67 : decode cX7_fraction 67 = .ok (.goto 5, 3) := by decide +kernel
theorem dX7_fraction_70 : decode cX7_fraction 70 = .ok (.lload 6, 2) := by decide +kernel
theorem dX7_fraction_72 : decode cX7_fraction 72 = .ok (.lload 8, 2) := by decide +kernel
theorem dX7_fraction_74 : decode cX7_fraction 74 = .ok (.ldiv, 1) := by decide +kernel
theorem dX7_fraction_75 : decode cX7_fraction 75 = .ok (.lreturn, 1) := by decide +kernel
theorem dX7_cheapest_0 : decode cX7_cheapest 0 = .ok (.aload_n 0, 1) := by decide +kernel
theorem dX7_cheapest_1 : decode cX7_cheapest 1 = .ok (.invokevirtual 45, 3) := by decide +kernel
theorem dX7_cheapest_4 : decode cX7_cheapest 4 = .ok (.aload_n 0, 1) := by decide +kernel
theorem dX7_cheapest_5 : decode cX7_cheapest 5 = .ok (.invokevirtual 70, 3) := by decide +kernel
theorem dX7_cheapest_8 : decode cX7_cheapest 8 = .ok (.istore_n 3, 1) := by decide +kernel
theorem dX7_cheapest_9 : decode cX7_cheapest 9 = .ok (.bipush (-9), 2) := by decide +kernel
theorem dX7_cheapest_11 : decode cX7_cheapest 11 = .ok (.istore 4, 2) := by decide +kernel
theorem dX7_cheapest_13 : decode cX7_cheapest 13 = .ok (.iconst 0, 1) := by decide +kernel
theorem dX7_cheapest_14 : decode cX7_cheapest 14 = .ok (.istore 5, 2) := by decide +kernel
theorem dX7_cheapest_16 : decode cX7_cheapest 16 = .ok (.iconst 0, 1) := by decide +kernel
theorem dX7_cheapest_17 : decode cX7_cheapest 17 = .ok (.istore 6, 2) := by decide +kernel
theorem dX7_cheapest_19 : decode cX7_cheapest 19 = .ok (.iload 6, 2) := by decide +kernel
theorem dX7_cheapest_21 : decode cX7_cheapest 21 = .ok (.iconst 1, 1) := by decide +kernel
theorem dX7_cheapest_22 : decode cX7_cheapest 22 = .ok (.aload_n 0, 1) := by decide +kernel
theorem dX7_cheapest_23 : decode cX7_cheapest 23 = .ok (.getfield 41, 3) := by decide +kernel
theorem dX7_cheapest_26 : decode cX7_cheapest 26 = .ok (.ishl, 1) := by decide +kernel
theorem dX7_cheapest_27 : decode cX7_cheapest 27 = .ok (.if_icmp .ge 50, 3) := by decide +kernel
theorem dX7_cheapest_30 : decode cX7_cheapest 30 = .ok (.aload_n 0, 1) := by decide +kernel
theorem dX7_cheapest_31 : decode cX7_cheapest 31 = .ok (.iload 6, 2) := by decide +kernel
theorem dX7_cheapest_33 : decode cX7_cheapest 33 = .ok (.invokevirtual 74, 3) := by decide +kernel
theorem dX7_cheapest_36 : decode cX7_cheapest 36 = .ok (.istore 7, 2) := by decide +kernel
theorem dX7_cheapest_38 : decode cX7_cheapest 38 = .ok (.iload 4, 2) := by decide +kernel
theorem dX7_cheapest_40 : decode cX7_cheapest 40 = .ok (.bipush (-9), 2) := by decide +kernel
theorem dX7_cheapest_42 : decode cX7_cheapest 42 = .ok (.if_icmp .eq 10, 3) := by decide +kernel
theorem dX7_cheapest_45 : decode cX7_cheapest 45 = .ok (.iload 7, 2) := by decide +kernel
theorem dX7_cheapest_47 : decode cX7_cheapest 47 = .ok (.iload 5, 2) := by decide +kernel
theorem dX7_cheapest_49 : decode cX7_cheapest 49 = .ok (.if_icmp .ge 22, 3) := by decide +kernel
theorem dX7_cheapest_52 : decode cX7_cheapest 52 = .ok (.aload_n 0, 1) := by decide +kernel
theorem dX7_cheapest_53 : decode cX7_cheapest 53 = .ok (.iload 6, 2) := by decide +kernel
theorem dX7_cheapest_55 : decode cX7_cheapest 55 = .ok (.iload_n 3, 1) := by decide +kernel
theorem dX7_cheapest_56 : decode cX7_cheapest 56 = .ok (.iload_n 1, 1) := by decide +kernel
theorem dX7_cheapest_57 : decode cX7_cheapest 57 = .ok (.invokevirtual 78, 3) := by decide +kernel
theorem dX7_cheapest_60 : decode cX7_cheapest 60 = .ok (.ifCond .eq 11, 3) := by decide +kernel
theorem dX7_cheapest_63 : decode cX7_cheapest 63 = .ok (.iload 6, 2) := by decide +kernel
theorem dX7_cheapest_65 : decode cX7_cheapest 65 = .ok (.istore 4, 2) := by decide +kernel
theorem dX7_cheapest_67 : decode cX7_cheapest 67 = .ok (.iload 7, 2) := by decide +kernel
theorem dX7_cheapest_69 : decode cX7_cheapest 69 = .ok (.istore 5, 2) := by decide +kernel
theorem dX7_cheapest_71 : decode cX7_cheapest 71 = .ok (.iinc 6 1, 3) := by decide +kernel
theorem dX7_cheapest_74 : decode cX7_cheapest 74 = .ok (.goto (-55), 3) := by decide +kernel
theorem dX7_cheapest_77 : decode cX7_cheapest 77 = .ok (.iload_n 2, 1) := by decide +kernel
theorem dX7_cheapest_78 : decode cX7_cheapest 78 = .ok (.iconst 1, 1) := by decide +kernel
theorem dX7_cheapest_79 : decode cX7_cheapest 79 = .ok (.if_icmp .eq 10, 3) := by decide +kernel
theorem dX7_cheapest_82 : decode cX7_cheapest 82 = .ok (.iload 4, 2) := by decide +kernel
theorem dX7_cheapest_84 : decode cX7_cheapest 84 = .ok (.bipush (-9), 2) := by decide +kernel
theorem dX7_cheapest_86 : decode cX7_cheapest 86 = .ok (.if_icmp .ne 8, 3) := by decide +kernel
theorem dX7_cheapest_89 : decode cX7_cheapest 89 = .ok (.iload 4, 2) := by decide +kernel
theorem dX7_cheapest_91 : decode cX7_cheapest 91 = .ok (.goto 5, 3) := by decide +kernel
theorem dX7_cheapest_94 : decode cX7_cheapest 94 = .ok (.iload 5, 2) := by decide +kernel
theorem dX7_cheapest_96 : decode cX7_cheapest 96 = .ok (.ireturn, 1) := by decide +kernel
theorem dX7_priceOf_0 : decode cX7_priceOf 0 = .ok (.iconst 0, 1) := by decide +kernel
theorem dX7_priceOf_1 : decode cX7_priceOf 1 = .ok (.istore_n 2, 1) := by decide +kernel
theorem dX7_priceOf_2 : decode cX7_priceOf 2 = .ok (.iconst 0, 1) := by decide +kernel
theorem dX7_priceOf_3 : decode cX7_priceOf 3 = .ok (.istore_n 3, 1) := by decide +kernel
theorem dX7_priceOf_4 : decode cX7_priceOf 4 = .ok (.iload_n 3, 1) := by decide +kernel
theorem dX7_priceOf_5 : decode cX7_priceOf 5 = .ok (.aload_n 0, 1) := by decide +kernel
theorem dX7_priceOf_6 : decode cX7_priceOf 6 = .ok (.getfield 41, 3) := by decide +kernel
theorem dX7_priceOf_9 : decode cX7_priceOf 9 = .ok (.if_icmp .ge 24, 3) := by decide +kernel
theorem dX7_priceOf_12 : decode cX7_priceOf 12 = .ok (.iload_n 2, 1) := by decide +kernel
theorem dX7_priceOf_13 : decode cX7_priceOf 13 = .ok (.iload_n 1, 1) := by decide +kernel
theorem dX7_priceOf_14 : decode cX7_priceOf 14 = .ok (.iload_n 3, 1) := by decide +kernel
theorem dX7_priceOf_15 : decode cX7_priceOf 15 = .ok (.ishr, 1) := by decide +kernel
theorem dX7_priceOf_16 : decode cX7_priceOf 16 = .ok (.iconst 1, 1) := by decide +kernel
theorem dX7_priceOf_17 : decode cX7_priceOf 17 = .ok (.iand, 1) := by decide +kernel
theorem dX7_priceOf_18 : decode cX7_priceOf 18 = .ok (.aload_n 0, 1) := by decide +kernel
theorem dX7_priceOf_19 : decode cX7_priceOf 19 = .ok (.getfield 34, 3) := by decide +kernel
theorem dX7_priceOf_22 : decode cX7_priceOf 22 = .ok (.iload_n 3, 1) := by decide +kernel
theorem dX7_priceOf_23 : decode cX7_priceOf 23 = .ok (.iaload, 1) := by decide +kernel
theorem dX7_priceOf_24 : decode cX7_priceOf 24 = .ok (.imul, 1) := by decide +kernel
theorem dX7_priceOf_25 : decode cX7_priceOf 25 = .ok (.iadd, 1) := by decide +kernel
theorem dX7_priceOf_26 : decode cX7_priceOf 26 = .ok (.istore_n 2, 1) := by decide +kernel
theorem dX7_priceOf_27 : decode cX7_priceOf 27 = .ok (.iinc 3 1, 3) := by decide +kernel
theorem dX7_priceOf_30 : decode cX7_priceOf 30 = .ok (.goto (-26), 3) := by decide +kernel
theorem dX7_priceOf_33 : decode cX7_priceOf 33 = .ok (.iload_n 2, 1) := by decide +kernel
theorem dX7_priceOf_34 : decode cX7_priceOf 34 = .ok (.ireturn, 1) := by decide +kernel
theorem dX7_serves_0 : decode cX7_serves 0 = .ok (.aload_n 0, 1) := by decide +kernel
theorem dX7_serves_1 : decode cX7_serves 1 = .ok (.iconst 0, 1) := by decide +kernel
theorem dX7_serves_2 : decode cX7_serves 2 = .ok (.iload_n 1, 1) := by decide +kernel
theorem dX7_serves_3 : decode cX7_serves 3 = .ok (.invokevirtual 48, 3) := by decide +kernel
theorem dX7_serves_6 : decode cX7_serves 6 = .ok (.iconst 0, 1) := by decide +kernel
theorem dX7_serves_7 : decode cX7_serves 7 = .ok (.istore 4, 2) := by decide +kernel
theorem dX7_serves_9 : decode cX7_serves 9 = .ok (.iload 4, 2) := by decide +kernel
theorem dX7_serves_11 : decode cX7_serves 11 = .ok (.aload_n 0, 1) := by decide +kernel
theorem dX7_serves_12 : decode cX7_serves 12 = .ok (.getfield 37, 3) := by decide +kernel
theorem dX7_serves_15 : decode cX7_serves 15 = .ok (.getfield 82, 3) := by decide +kernel
theorem dX7_serves_18 : decode cX7_serves 18 = .ok (.if_icmp .ge 30, 3) := by decide +kernel
theorem dX7_serves_21 : decode cX7_serves 21 = .ok (.iload_n 2, 1) := by decide +kernel
theorem dX7_serves_22 : decode cX7_serves 22 = .ok (.iload 4, 2) := by decide +kernel
theorem dX7_serves_24 : decode cX7_serves 24 = .ok (.ishr, 1) := by decide +kernel
theorem dX7_serves_25 : decode cX7_serves 25 = .ok (.iconst 1, 1) := by decide +kernel
theorem dX7_serves_26 : decode cX7_serves 26 = .ok (.iand, 1) := by decide +kernel
theorem dX7_serves_27 : decode cX7_serves 27 = .ok (.iconst 1, 1) := by decide +kernel
theorem dX7_serves_28 : decode cX7_serves 28 = .ok (.if_icmp .ne 14, 3) := by decide +kernel
theorem dX7_serves_31 : decode cX7_serves 31 = .ok (.aload_n 0, 1) := by decide +kernel
theorem dX7_serves_32 : decode cX7_serves 32 = .ok (.iload 4, 2) := by decide +kernel
theorem dX7_serves_34 : decode cX7_serves 34 = .ok (.invokevirtual 52, 3) := by decide +kernel
theorem dX7_serves_37 : decode cX7_serves 37 = .ok (.ifCond .eq 5, 3) := by decide +kernel
theorem dX7_serves_40 : decode cX7_serves 40 = .ok (.iconst 0, 1) := by decide +kernel
theorem dX7_serves_41 : decode cX7_serves 41 = .ok (.ireturn, 1) := by decide +kernel
theorem dX7_serves_42 : decode cX7_serves 42 = .ok (.iinc 4 1, 3) := by decide +kernel
theorem dX7_serves_45 : decode cX7_serves 45 = .ok (.goto (-36), 3) := by decide +kernel
theorem dX7_serves_48 : decode cX7_serves 48 = .ok (.aload_n 0, 1) := by decide +kernel
theorem dX7_serves_49 : decode cX7_serves 49 = .ok (.iconst 0, 1) := by decide +kernel
theorem dX7_serves_50 : decode cX7_serves 50 = .ok (.invokevirtual 58, 3) := by decide +kernel
theorem dX7_serves_53 : decode cX7_serves 53 = .ok (.iload_n 3, 1) := by decide +kernel
theorem dX7_serves_54 : decode cX7_serves 54 = .ok (.i2l, 1) := by decide +kernel
theorem dX7_serves_55 : decode cX7_serves 55 = .ok (.aload_n 0, 1) := by decide +kernel
theorem dX7_serves_56 : decode cX7_serves 56 = .ok (.iconst (-1), 1) := by decide +kernel
theorem dX7_serves_57 : decode cX7_serves 57 = .ok (.invokevirtual 62, 3) := by decide +kernel
theorem dX7_serves_60 : decode cX7_serves 60 = .ok (.lmul, 1) := by decide +kernel
theorem dX7_serves_61 : decode cX7_serves 61 = .ok (.lstore 4, 2) := by decide +kernel
theorem dX7_serves_63 : decode cX7_serves 63 = .ok (.iconst 0, 1) := by decide +kernel
theorem dX7_serves_64 : decode cX7_serves 64 = .ok (.istore 6, 2) := by decide +kernel
theorem dX7_serves_66 : decode cX7_serves 66 = .ok (.iload 6, 2) := by decide +kernel
theorem dX7_serves_68 : decode cX7_serves 68 = .ok (.aload_n 0, 1) := by decide +kernel
theorem dX7_serves_69 : decode cX7_serves 69 = .ok (.getfield 37, 3) := by decide +kernel
theorem dX7_serves_72 : decode cX7_serves 72 = .ok (.getfield 82, 3) := by decide +kernel
theorem dX7_serves_75 : decode cX7_serves 75 = .ok (.if_icmp .ge 33, 3) := by decide +kernel
theorem dX7_serves_78 : decode cX7_serves 78 = .ok (.iload_n 2, 1) := by decide +kernel
theorem dX7_serves_79 : decode cX7_serves 79 = .ok (.iload 6, 2) := by decide +kernel
theorem dX7_serves_81 : decode cX7_serves 81 = .ok (.ishr, 1) := by decide +kernel
theorem dX7_serves_82 : decode cX7_serves 82 = .ok (.iconst 1, 1) := by decide +kernel
theorem dX7_serves_83 : decode cX7_serves 83 = .ok (.iand, 1) := by decide +kernel
theorem dX7_serves_84 : decode cX7_serves 84 = .ok (.iconst 1, 1) := by decide +kernel
theorem dX7_serves_85 : decode cX7_serves 85 = .ok (.if_icmp .ne 17, 3) := by decide +kernel
theorem dX7_serves_88 : decode cX7_serves 88 = .ok (.aload_n 0, 1) := by decide +kernel
theorem dX7_serves_89 : decode cX7_serves 89 = .ok (.iload 6, 2) := by decide +kernel
theorem dX7_serves_91 : decode cX7_serves 91 = .ok (.invokevirtual 62, 3) := by decide +kernel
theorem dX7_serves_94 : decode cX7_serves 94 = .ok (.lload 4, 2) := by decide +kernel
theorem dX7_serves_96 : decode cX7_serves 96 = .ok (.lcmp, 1) := by decide +kernel
theorem dX7_serves_97 : decode cX7_serves 97 = .ok (.ifCond .le 5, 3) := by decide +kernel
theorem dX7_serves_100 : decode cX7_serves 100 = .ok (.iconst 0, 1) := by decide +kernel
theorem dX7_serves_101 : decode cX7_serves 101 = .ok (.ireturn, 1) := by decide +kernel
theorem dX7_serves_102 : decode cX7_serves 102 = .ok (.iinc 6 1, 3) := by decide +kernel
theorem dX7_serves_105 : decode cX7_serves 105 = .ok (.goto (-39), 3) := by decide +kernel
theorem dX7_serves_108 : decode cX7_serves 108 = .ok (.iconst 1, 1) := by decide +kernel
theorem dX7_serves_109 : decode cX7_serves 109 = .ok (.ireturn, 1) := by decide +kernel
theorem dX7_leakyRooms_0 : decode cX7_leakyRooms 0 = .ok (.iconst 0, 1) := by decide +kernel
theorem dX7_leakyRooms_1 : decode cX7_leakyRooms 1 = .ok (.istore_n 1, 1) := by decide +kernel
theorem dX7_leakyRooms_2 : decode cX7_leakyRooms 2 = .ok (.iconst 0, 1) := by decide +kernel
theorem dX7_leakyRooms_3 : decode cX7_leakyRooms 3 = .ok (.istore_n 2, 1) := by decide +kernel
theorem dX7_leakyRooms_4 : decode cX7_leakyRooms 4 = .ok (.iload_n 2, 1) := by decide +kernel
theorem dX7_leakyRooms_5 : decode cX7_leakyRooms 5 = .ok (.aload_n 0, 1) := by decide +kernel
theorem dX7_leakyRooms_6 : decode cX7_leakyRooms 6 = .ok (.getfield 37, 3) := by decide +kernel
theorem dX7_leakyRooms_9 : decode cX7_leakyRooms 9 = .ok (.getfield 82, 3) := by decide +kernel
theorem dX7_leakyRooms_12 : decode cX7_leakyRooms 12 = .ok (.if_icmp .ge 36, 3) := by decide +kernel
theorem dX7_leakyRooms_15 : decode cX7_leakyRooms 15 = .ok (.iload_n 1, 1) := by decide +kernel
theorem dX7_leakyRooms_16 : decode cX7_leakyRooms 16 = .ok (.aload_n 0, 1) := by decide +kernel
theorem dX7_leakyRooms_17 : decode cX7_leakyRooms 17 = .ok (.getfield 37, 3) := by decide +kernel
theorem dX7_leakyRooms_20 : decode cX7_leakyRooms 20 = .ok (.getfield 87, 3) := by decide +kernel
theorem dX7_leakyRooms_23 : decode cX7_leakyRooms 23 = .ok (.iload_n 2, 1) := by decide +kernel
theorem dX7_leakyRooms_24 : decode cX7_leakyRooms 24 = .ok (.iconst 3, 1) := by decide +kernel
theorem dX7_leakyRooms_25 : decode cX7_leakyRooms 25 = .ok (.imul, 1) := by decide +kernel
theorem dX7_leakyRooms_26 : decode cX7_leakyRooms 26 = .ok (.iaload, 1) := by decide +kernel
theorem dX7_leakyRooms_27 : decode cX7_leakyRooms 27 = .ok (.ifCond .le 12, 3) := by decide +kernel
theorem dX7_leakyRooms_30 : decode cX7_leakyRooms 30 = .ok (.aload_n 0, 1) := by decide +kernel
theorem dX7_leakyRooms_31 : decode cX7_leakyRooms 31 = .ok (.getfield 15, 3) := by decide +kernel
theorem dX7_leakyRooms_34 : decode cX7_leakyRooms 34 = .ok (.iload_n 2, 1) := by decide +kernel
theorem dX7_leakyRooms_35 : decode cX7_leakyRooms 35 = .ok (.iaload, 1) := by decide +kernel
theorem dX7_leakyRooms_36 : decode cX7_leakyRooms 36 = .ok (.goto 4, 3) := by decide +kernel
theorem dX7_leakyRooms_39 : decode cX7_leakyRooms 39 = .ok (.iconst 0, 1) := by decide +kernel
theorem dX7_leakyRooms_40 : decode cX7_leakyRooms 40 = .ok (.ior, 1) := by decide +kernel
theorem dX7_leakyRooms_41 : decode cX7_leakyRooms 41 = .ok (.istore_n 1, 1) := by decide +kernel
theorem dX7_leakyRooms_42 : decode cX7_leakyRooms 42 = .ok (.iinc 2 1, 3) := by decide +kernel
theorem dX7_leakyRooms_45 : decode cX7_leakyRooms 45 = .ok (.goto (-41), 3) := by decide +kernel
theorem dX7_leakyRooms_48 : decode cX7_leakyRooms 48 = .ok (.iload_n 1, 1) := by decide +kernel
theorem dX7_leakyRooms_49 : decode cX7_leakyRooms 49 = .ok (.ireturn, 1) := by decide +kernel
theorem dX7_findReached_0 : decode cX7_findReached 0 = .ok (.iconst 0, 1) := by decide +kernel
theorem dX7_findReached_1 : decode cX7_findReached 1 = .ok (.istore_n 1, 1) := by decide +kernel
theorem dX7_findReached_2 : decode cX7_findReached 2 = .ok (.iload_n 1, 1) := by decide +kernel
theorem dX7_findReached_3 : decode cX7_findReached 3 = .ok (.iconst 5, 1) := by decide +kernel
theorem dX7_findReached_4 : decode cX7_findReached 4 = .ok (.if_icmp .ge 18, 3) := by decide +kernel
theorem dX7_findReached_7 : decode cX7_findReached 7 = .ok (.aload_n 0, 1) := by decide +kernel
theorem dX7_findReached_8 : decode cX7_findReached 8 = .ok (.getfield 15, 3) := by decide +kernel
theorem dX7_findReached_11 : decode cX7_findReached 11 = .ok (.iload_n 1, 1) := by decide +kernel
theorem dX7_findReached_12 : decode cX7_findReached 12 = .ok (.iconst 1, 1) := by decide +kernel
theorem dX7_findReached_13 : decode cX7_findReached 13 = .ok (.iload_n 1, 1) := by decide +kernel
theorem dX7_findReached_14 : decode cX7_findReached 14 = .ok (.ishl, 1) := by decide +kernel
theorem dX7_findReached_15 : decode cX7_findReached 15 = .ok (.iastore, 1) := by decide +kernel
theorem dX7_findReached_16 : decode cX7_findReached 16 = .ok (.iinc 1 1, 3) := by decide +kernel
theorem dX7_findReached_19 : decode cX7_findReached 19 = .ok (.goto (-17), 3) := by decide +kernel
theorem dX7_findReached_22 : decode cX7_findReached 22 = .ok (.iconst 0, 1) := by decide +kernel
theorem dX7_findReached_23 : decode cX7_findReached 23 = .ok (.istore_n 1, 1) := by decide +kernel
theorem dX7_findReached_24 : decode cX7_findReached 24 = .ok (.iload_n 1, 1) := by decide +kernel
theorem dX7_findReached_25 : decode cX7_findReached 25 = .ok (.aload_n 0, 1) := by decide +kernel
theorem dX7_findReached_26 : decode cX7_findReached 26 = .ok (.getfield 37, 3) := by decide +kernel
theorem dX7_findReached_29 : decode cX7_findReached 29 = .ok (.getfield 90, 3) := by decide +kernel
theorem dX7_findReached_32 : decode cX7_findReached 32 = .ok (.if_icmp .ge 57, 3) := by decide +kernel
theorem dX7_findReached_35 : decode cX7_findReached 35 = .ok (.aload_n 0, 1) := by decide +kernel
theorem dX7_findReached_36 : decode cX7_findReached 36 = .ok (.getfield 37, 3) := by decide +kernel
theorem dX7_findReached_39 : decode cX7_findReached 39 = .ok (.getfield 93, 3) := by decide +kernel
theorem dX7_findReached_42 : decode cX7_findReached 42 = .ok (.iload_n 1, 1) := by decide +kernel
theorem dX7_findReached_43 : decode cX7_findReached 43 = .ok (.ishr, 1) := by decide +kernel
theorem dX7_findReached_44 : decode cX7_findReached 44 = .ok (.iconst 1, 1) := by decide +kernel
theorem dX7_findReached_45 : decode cX7_findReached 45 = .ok (.iand, 1) := by decide +kernel
theorem dX7_findReached_46 : decode cX7_findReached 46 = .ok (.iconst 1, 1) := by decide +kernel
theorem dX7_findReached_47 : decode cX7_findReached 47 = .ok (.if_icmp .ne 36, 3) := by decide +kernel
theorem dX7_findReached_50 : decode cX7_findReached 50 = .ok (.aload_n 0, 1) := by decide +kernel
theorem dX7_findReached_51 : decode cX7_findReached 51 = .ok (.aload_n 0, 1) := by decide +kernel
theorem dX7_findReached_52 : decode cX7_findReached 52 = .ok (.getfield 15, 3) := by decide +kernel
theorem dX7_findReached_55 : decode cX7_findReached 55 = .ok (.aload_n 0, 1) := by decide +kernel
theorem dX7_findReached_56 : decode cX7_findReached 56 = .ok (.getfield 37, 3) := by decide +kernel
theorem dX7_findReached_59 : decode cX7_findReached 59 = .ok (.getfield 96, 3) := by decide +kernel
theorem dX7_findReached_62 : decode cX7_findReached 62 = .ok (.iload_n 1, 1) := by decide +kernel
theorem dX7_findReached_63 : decode cX7_findReached 63 = .ok (.iaload, 1) := by decide +kernel
theorem dX7_findReached_64 : decode cX7_findReached 64 = .ok (.iaload, 1) := by decide +kernel
theorem dX7_findReached_65 : decode cX7_findReached 65 = .ok (.aload_n 0, 1) := by decide +kernel
theorem dX7_findReached_66 : decode cX7_findReached 66 = .ok (.getfield 15, 3) := by decide +kernel
theorem dX7_findReached_69 : decode cX7_findReached 69 = .ok (.aload_n 0, 1) := by decide +kernel
theorem dX7_findReached_70 : decode cX7_findReached 70 = .ok (.getfield 37, 3) := by decide +kernel
theorem dX7_findReached_73 : decode cX7_findReached 73 = .ok (.getfield 99, 3) := by decide +kernel
theorem dX7_findReached_76 : decode cX7_findReached 76 = .ok (.iload_n 1, 1) := by decide +kernel
theorem dX7_findReached_77 : decode cX7_findReached 77 = .ok (.iaload, 1) := by decide +kernel
theorem dX7_findReached_78 : decode cX7_findReached 78 = .ok (.iaload, 1) := by decide +kernel
theorem dX7_findReached_79 : decode cX7_findReached 79 = .ok (.ior, 1) := by decide +kernel
theorem dX7_findReached_80 : decode cX7_findReached 80 = .ok (.invokevirtual 102, 3) := by decide +kernel
theorem dX7_findReached_83 : decode cX7_findReached 83 = .ok (.iinc 1 1, 3) := by decide +kernel
theorem dX7_findReached_86 : decode cX7_findReached 86 = .ok (.goto (-62), 3) := by decide +kernel
theorem dX7_findReached_89 : decode cX7_findReached 89 = .ok (.return_, 1) := by decide +kernel
theorem dX7_join_0 : decode cX7_join 0 = .ok (.iconst 0, 1) := by decide +kernel
theorem dX7_join_1 : decode cX7_join 1 = .ok (.istore_n 2, 1) := by decide +kernel
theorem dX7_join_2 : decode cX7_join 2 = .ok (.iload_n 2, 1) := by decide +kernel
theorem dX7_join_3 : decode cX7_join 3 = .ok (.iconst 5, 1) := by decide +kernel
theorem dX7_join_4 : decode cX7_join 4 = .ok (.if_icmp .ge 25, 3) := by decide +kernel
theorem dX7_join_7 : decode cX7_join 7 = .ok (.iload_n 1, 1) := by decide +kernel
theorem dX7_join_8 : decode cX7_join 8 = .ok (.iload_n 2, 1) := by decide +kernel
theorem dX7_join_9 : decode cX7_join 9 = .ok (.ishr, 1) := by decide +kernel
theorem dX7_join_10 : decode cX7_join 10 = .ok (.iconst 1, 1) := by decide +kernel
theorem dX7_join_11 : decode cX7_join 11 = .ok (.iand, 1) := by decide +kernel
theorem dX7_join_12 : decode cX7_join 12 = .ok (.iconst 1, 1) := by decide +kernel
theorem dX7_join_13 : decode cX7_join 13 = .ok (.if_icmp .ne 10, 3) := by decide +kernel
theorem dX7_join_16 : decode cX7_join 16 = .ok (.aload_n 0, 1) := by decide +kernel
theorem dX7_join_17 : decode cX7_join 17 = .ok (.getfield 15, 3) := by decide +kernel
theorem dX7_join_20 : decode cX7_join 20 = .ok (.iload_n 2, 1) := by decide +kernel
theorem dX7_join_21 : decode cX7_join 21 = .ok (.iload_n 1, 1) := by decide +kernel
theorem dX7_join_22 : decode cX7_join 22 = .ok (.iastore, 1) := by decide +kernel
theorem dX7_join_23 : decode cX7_join 23 = .ok (.iinc 2 1, 3) := by decide +kernel
theorem dX7_join_26 : decode cX7_join 26 = .ok (.goto (-24), 3) := by decide +kernel
theorem dX7_join_29 : decode cX7_join 29 = .ok (.return_, 1) := by decide +kernel
theorem dX7_findSpeeds_0 : decode cX7_findSpeeds 0 = .ok (.aload_n 0, 1) := by decide +kernel
theorem dX7_findSpeeds_1 : decode cX7_findSpeeds 1 = .ok (.getfield 9, 3) := by decide +kernel
theorem dX7_findSpeeds_4 : decode cX7_findSpeeds 4 = .ok (.iconst 0, 1) := by decide +kernel
theorem dX7_findSpeeds_5 : decode cX7_findSpeeds 5 = .ok (.invokestatic 105, 3) := by decide +kernel
theorem dX7_findSpeeds_8 : decode cX7_findSpeeds 8 = .ok (.iconst 0, 1) := by decide +kernel
theorem dX7_findSpeeds_9 : decode cX7_findSpeeds 9 = .ok (.istore_n 3, 1) := by decide +kernel
theorem dX7_findSpeeds_10 : decode cX7_findSpeeds 10 = .ok (.iload_n 3, 1) := by decide +kernel
theorem dX7_findSpeeds_11 : decode cX7_findSpeeds 11 = .ok (.aload_n 0, 1) := by decide +kernel
theorem dX7_findSpeeds_12 : decode cX7_findSpeeds 12 = .ok (.getfield 37, 3) := by decide +kernel
theorem dX7_findSpeeds_15 : decode cX7_findSpeeds 15 = .ok (.getfield 110, 3) := by decide +kernel
theorem dX7_findSpeeds_18 : decode cX7_findSpeeds 18 = .ok (.if_icmp .ge 55, 3) := by decide +kernel
theorem dX7_findSpeeds_21 : decode cX7_findSpeeds 21 = .ok (.aload_n 0, 1) := by decide +kernel
theorem dX7_findSpeeds_22 : decode cX7_findSpeeds 22 = .ok (.getfield 37, 3) := by decide +kernel
theorem dX7_findSpeeds_25 : decode cX7_findSpeeds 25 = .ok (.getfield 113, 3) := by decide +kernel
theorem dX7_findSpeeds_28 : decode cX7_findSpeeds 28 = .ok (.iload_n 3, 1) := by decide +kernel
theorem dX7_findSpeeds_29 : decode cX7_findSpeeds 29 = .ok (.iconst 3, 1) := by decide +kernel
theorem dX7_findSpeeds_30 : decode cX7_findSpeeds 30 = .ok (.imul, 1) := by decide +kernel
theorem dX7_findSpeeds_31 : decode cX7_findSpeeds 31 = .ok (.iload_n 1, 1) := by decide +kernel
theorem dX7_findSpeeds_32 : decode cX7_findSpeeds 32 = .ok (.iadd, 1) := by decide +kernel
theorem dX7_findSpeeds_33 : decode cX7_findSpeeds 33 = .ok (.iaload, 1) := by decide +kernel
theorem dX7_findSpeeds_34 : decode cX7_findSpeeds 34 = .ok (.istore 4, 2) := by decide +kernel
theorem dX7_findSpeeds_36 : decode cX7_findSpeeds 36 = .ok (.aload_n 0, 1) := by decide +kernel
theorem dX7_findSpeeds_37 : decode cX7_findSpeeds 37 = .ok (.getfield 9, 3) := by decide +kernel
theorem dX7_findSpeeds_40 : decode cX7_findSpeeds 40 = .ok (.aload_n 0, 1) := by decide +kernel
theorem dX7_findSpeeds_41 : decode cX7_findSpeeds 41 = .ok (.getfield 37, 3) := by decide +kernel
theorem dX7_findSpeeds_44 : decode cX7_findSpeeds 44 = .ok (.getfield 116, 3) := by decide +kernel
theorem dX7_findSpeeds_47 : decode cX7_findSpeeds 47 = .ok (.iload_n 3, 1) := by decide +kernel
theorem dX7_findSpeeds_48 : decode cX7_findSpeeds 48 = .ok (.iaload, 1) := by decide +kernel
theorem dX7_findSpeeds_49 : decode cX7_findSpeeds 49 = .ok (.dup2, 1) := by decide +kernel
theorem dX7_findSpeeds_50 : decode cX7_findSpeeds 50 = .ok (.iaload, 1) := by decide +kernel
theorem dX7_findSpeeds_51 : decode cX7_findSpeeds 51 = .ok (.aload_n 0, 1) := by decide +kernel
theorem dX7_findSpeeds_52 : decode cX7_findSpeeds 52 = .ok (.getfield 37, 3) := by decide +kernel
theorem dX7_findSpeeds_55 : decode cX7_findSpeeds 55 = .ok (.getfield 117, 3) := by decide +kernel
theorem dX7_findSpeeds_58 : decode cX7_findSpeeds 58 = .ok (.iload_n 3, 1) := by decide +kernel
theorem dX7_findSpeeds_59 : decode cX7_findSpeeds 59 = .ok (.ishr, 1) := by decide +kernel
theorem dX7_findSpeeds_60 : decode cX7_findSpeeds 60 = .ok (.iconst 1, 1) := by decide +kernel
theorem dX7_findSpeeds_61 : decode cX7_findSpeeds 61 = .ok (.iand, 1) := by decide +kernel
theorem dX7_findSpeeds_62 : decode cX7_findSpeeds 62 = .ok (.iload 4, 2) := by decide +kernel
theorem dX7_findSpeeds_64 : decode cX7_findSpeeds 64 = .ok (.imul, 1) := by decide +kernel
theorem dX7_findSpeeds_65 : decode cX7_findSpeeds 65 = .ok (.iadd, 1) := by decide +kernel
theorem dX7_findSpeeds_66 : decode cX7_findSpeeds 66 = .ok (.iastore, 1) := by decide +kernel
theorem dX7_findSpeeds_67 : decode cX7_findSpeeds 67 = .ok (.iinc 3 1, 3) := by decide +kernel
theorem dX7_findSpeeds_70 : decode cX7_findSpeeds 70 = .ok (.goto (-60), 3) := by decide +kernel
theorem dX7_findSpeeds_73 : decode cX7_findSpeeds 73 = .ok (.iconst 0, 1) := by decide +kernel
theorem dX7_findSpeeds_74 : decode cX7_findSpeeds 74 = .ok (.istore_n 3, 1) := by decide +kernel
theorem dX7_findSpeeds_75 : decode cX7_findSpeeds 75 = .ok (.iload_n 3, 1) := by decide +kernel
theorem dX7_findSpeeds_76 : decode cX7_findSpeeds 76 = .ok (.aload_n 0, 1) := by decide +kernel
theorem dX7_findSpeeds_77 : decode cX7_findSpeeds 77 = .ok (.getfield 41, 3) := by decide +kernel
theorem dX7_findSpeeds_80 : decode cX7_findSpeeds 80 = .ok (.if_icmp .ge 35, 3) := by decide +kernel
theorem dX7_findSpeeds_83 : decode cX7_findSpeeds 83 = .ok (.aload_n 0, 1) := by decide +kernel
theorem dX7_findSpeeds_84 : decode cX7_findSpeeds 84 = .ok (.getfield 9, 3) := by decide +kernel
theorem dX7_findSpeeds_87 : decode cX7_findSpeeds 87 = .ok (.aload_n 0, 1) := by decide +kernel
theorem dX7_findSpeeds_88 : decode cX7_findSpeeds 88 = .ok (.getfield 28, 3) := by decide +kernel
theorem dX7_findSpeeds_91 : decode cX7_findSpeeds 91 = .ok (.iload_n 3, 1) := by decide +kernel
theorem dX7_findSpeeds_92 : decode cX7_findSpeeds 92 = .ok (.iaload, 1) := by decide +kernel
theorem dX7_findSpeeds_93 : decode cX7_findSpeeds 93 = .ok (.dup2, 1) := by decide +kernel
theorem dX7_findSpeeds_94 : decode cX7_findSpeeds 94 = .ok (.iaload, 1) := by decide +kernel
theorem dX7_findSpeeds_95 : decode cX7_findSpeeds 95 = .ok (.iload_n 2, 1) := by decide +kernel
theorem dX7_findSpeeds_96 : decode cX7_findSpeeds 96 = .ok (.iload_n 3, 1) := by decide +kernel
theorem dX7_findSpeeds_97 : decode cX7_findSpeeds 97 = .ok (.ishr, 1) := by decide +kernel
theorem dX7_findSpeeds_98 : decode cX7_findSpeeds 98 = .ok (.iconst 1, 1) := by decide +kernel
theorem dX7_findSpeeds_99 : decode cX7_findSpeeds 99 = .ok (.iand, 1) := by decide +kernel
theorem dX7_findSpeeds_100 : decode cX7_findSpeeds 100 = .ok (.aload_n 0, 1) := by decide +kernel
theorem dX7_findSpeeds_101 : decode cX7_findSpeeds 101 = .ok (.getfield 31, 3) := by decide +kernel
theorem dX7_findSpeeds_104 : decode cX7_findSpeeds 104 = .ok (.iload_n 3, 1) := by decide +kernel
theorem dX7_findSpeeds_105 : decode cX7_findSpeeds 105 = .ok (.iaload, 1) := by decide +kernel
theorem dX7_findSpeeds_106 : decode cX7_findSpeeds 106 = .ok (.imul, 1) := by decide +kernel
theorem dX7_findSpeeds_107 : decode cX7_findSpeeds 107 = .ok (.iadd, 1) := by decide +kernel
theorem dX7_findSpeeds_108 : decode cX7_findSpeeds 108 = .ok (.iastore, 1) := by decide +kernel
theorem dX7_findSpeeds_109 : decode cX7_findSpeeds 109 = .ok (.iinc 3 1, 3) := by decide +kernel
theorem dX7_findSpeeds_112 : decode cX7_findSpeeds 112 = .ok (.goto (-37), 3) := by decide +kernel
theorem dX7_findSpeeds_115 : decode cX7_findSpeeds 115 = .ok (.return_, 1) := by decide +kernel
theorem dX7_isClosed_0 : decode cX7_isClosed 0 = .ok (.iconst 0, 1) := by decide +kernel
theorem dX7_isClosed_1 : decode cX7_isClosed 1 = .ok (.istore_n 2, 1) := by decide +kernel
theorem dX7_isClosed_2 : decode cX7_isClosed 2 = .ok (.iload_n 2, 1) := by decide +kernel
theorem dX7_isClosed_3 : decode cX7_isClosed 3 = .ok (.iconst 5, 1) := by decide +kernel
theorem dX7_isClosed_4 : decode cX7_isClosed 4 = .ok (.if_icmp .ge 34, 3) := by decide +kernel
theorem dX7_isClosed_7 : decode cX7_isClosed 7 = .ok (.aload_n 0, 1) := by decide +kernel
theorem dX7_isClosed_8 : decode cX7_isClosed 8 = .ok (.getfield 15, 3) := by decide +kernel
theorem dX7_isClosed_11 : decode cX7_isClosed 11 = .ok (.iload_n 1, 1) := by decide +kernel
theorem dX7_isClosed_12 : decode cX7_isClosed 12 = .ok (.iaload, 1) := by decide +kernel
theorem dX7_isClosed_13 : decode cX7_isClosed 13 = .ok (.iload_n 2, 1) := by decide +kernel
theorem dX7_isClosed_14 : decode cX7_isClosed 14 = .ok (.ishr, 1) := by decide +kernel
theorem dX7_isClosed_15 : decode cX7_isClosed 15 = .ok (.iconst 1, 1) := by decide +kernel
theorem dX7_isClosed_16 : decode cX7_isClosed 16 = .ok (.iand, 1) := by decide +kernel
theorem dX7_isClosed_17 : decode cX7_isClosed 17 = .ok (.iconst 1, 1) := by decide +kernel
theorem dX7_isClosed_18 : decode cX7_isClosed 18 = .ok (.if_icmp .ne 14, 3) := by decide +kernel
theorem dX7_isClosed_21 : decode cX7_isClosed 21 = .ok (.aload_n 0, 1) := by decide +kernel
theorem dX7_isClosed_22 : decode cX7_isClosed 22 = .ok (.getfield 9, 3) := by decide +kernel
theorem dX7_isClosed_25 : decode cX7_isClosed 25 = .ok (.iload_n 2, 1) := by decide +kernel
theorem dX7_isClosed_26 : decode cX7_isClosed 26 = .ok (.iaload, 1) := by decide +kernel
theorem dX7_isClosed_27 : decode cX7_isClosed 27 = .ok (.ifCond .le 5, 3) := by decide +kernel
theorem dX7_isClosed_30 : decode cX7_isClosed 30 = .ok (.iconst 0, 1) := by decide +kernel
theorem dX7_isClosed_31 : decode cX7_isClosed 31 = .ok (.ireturn, 1) := by decide +kernel
theorem dX7_isClosed_32 : decode cX7_isClosed 32 = .ok (.iinc 2 1, 3) := by decide +kernel
theorem dX7_isClosed_35 : decode cX7_isClosed 35 = .ok (.goto (-33), 3) := by decide +kernel
theorem dX7_isClosed_38 : decode cX7_isClosed 38 = .ok (.iconst 1, 1) := by decide +kernel
theorem dX7_isClosed_39 : decode cX7_isClosed 39 = .ok (.ireturn, 1) := by decide +kernel
theorem dX7_fill_0 : decode cX7_fill 0 = .ok (.aload_n 0, 1) := by decide +kernel
theorem dX7_fill_1 : decode cX7_fill 1 = .ok (.getfield 18, 3) := by decide +kernel
theorem dX7_fill_4 : decode cX7_fill 4 = .ok (.lconst 0, 1) := by decide +kernel
theorem dX7_fill_5 : decode cX7_fill 5 = .ok (.invokestatic 120, 3) := by decide +kernel
theorem dX7_fill_8 : decode cX7_fill 8 = .ok (.iconst 0, 1) := by decide +kernel
theorem dX7_fill_9 : decode cX7_fill 9 = .ok (.istore_n 2, 1) := by decide +kernel
theorem dX7_fill_10 : decode cX7_fill 10 = .ok (.iload_n 2, 1) := by decide +kernel
theorem dX7_fill_11 : decode cX7_fill 11 = .ok (.iconst 5, 1) := by decide +kernel
theorem dX7_fill_12 : decode cX7_fill 12 = .ok (.if_icmp .ge 68, 3) := by decide +kernel
theorem dX7_fill_15 : decode cX7_fill 15 = .ok (.aload_n 0, 1) := by decide +kernel
theorem dX7_fill_16 : decode cX7_fill 16 = .ok (.iload_n 2, 1) := by decide +kernel
theorem dX7_fill_17 : decode cX7_fill 17 = .ok (.invokevirtual 52, 3) := by decide +kernel
theorem dX7_fill_20 : decode cX7_fill 20 = .ok (.istore_n 3, 1) := by decide +kernel
theorem dX7_fill_21 : decode cX7_fill 21 = .ok (.aload_n 0, 1) := by decide +kernel
theorem dX7_fill_22 : decode cX7_fill 22 = .ok (.getfield 18, 3) := by decide +kernel
theorem dX7_fill_25 : decode cX7_fill 25 = .ok (.iload_n 2, 1) := by decide +kernel
theorem dX7_fill_26 : decode cX7_fill 26 = .ok (.iconst 5, 1) := by decide +kernel
theorem dX7_fill_27 : decode cX7_fill 27 = .ok (.imul, 1) := by decide +kernel
theorem dX7_fill_28 : decode cX7_fill 28 = .ok (.iload_n 2, 1) := by decide +kernel
theorem dX7_fill_29 : decode cX7_fill 29 = .ok (.iadd, 1) := by decide +kernel
theorem dX7_fill_30 : decode cX7_fill 30 = .ok (.iload_n 3, 1) := by decide +kernel
theorem dX7_fill_31 : decode cX7_fill 31 = .ok (.ifCond .eq 7, 3) := by decide +kernel
theorem dX7_fill_34 : decode cX7_fill 34 = .ok (.lconst 1, 1) := by decide +kernel
theorem dX7_fill_35 : decode cX7_fill 35 = .ok (.goto 10, 3) := by decide +kernel
theorem dX7_fill_38 : decode cX7_fill 38 = .ok (.aload_n 0, 1) := by decide +kernel
theorem dX7_fill_39 : decode cX7_fill 39 = .ok (.getfield 9, 3) := by decide +kernel
theorem dX7_fill_42 : decode cX7_fill 42 = .ok (.iload_n 2, 1) := by decide +kernel
theorem dX7_fill_43 : decode cX7_fill 43 = .ok (.iaload, 1) := by decide +kernel
theorem dX7_fill_44 : decode cX7_fill 44 = .ok (.i2l, 1) := by decide +kernel
theorem dX7_fill_45 : decode cX7_fill 45 = .ok (.lastore, 1) := by decide +kernel
theorem dX7_fill_46 : decode cX7_fill 46 = .ok (.aload_n 0, 1) := by decide +kernel
theorem dX7_fill_47 : decode cX7_fill 47 = .ok (.getfield 22, 3) := by decide +kernel
theorem dX7_fill_50 : decode cX7_fill 50 = .ok (.iload_n 2, 1) := by decide +kernel
theorem dX7_fill_51 : decode cX7_fill 51 = .ok (.iload_n 3, 1) := by decide +kernel
theorem dX7_fill_52 : decode cX7_fill 52 = .ok (.ifCond .eq 7, 3) := by decide +kernel
theorem dX7_fill_55 : decode cX7_fill 55 = .ok (.lconst 0, 1) := by decide +kernel
theorem dX7_fill_56 : decode cX7_fill 56 = .ok (.goto 17, 3) := by decide +kernel
theorem dX7_fill_59 : decode cX7_fill 59 = .ok (.aload_n 0, 1) := by decide +kernel
theorem dX7_fill_60 : decode cX7_fill 60 = .ok (.getfield 37, 3) := by decide +kernel
theorem dX7_fill_63 : decode cX7_fill 63 = .ok (.getfield 87, 3) := by decide +kernel
theorem dX7_fill_66 : decode cX7_fill 66 = .ok (.iload_n 2, 1) := by decide +kernel
theorem dX7_fill_67 : decode cX7_fill 67 = .ok (.iconst 3, 1) := by decide +kernel
theorem dX7_fill_68 : decode cX7_fill 68 = .ok (.imul, 1) := by decide +kernel
theorem dX7_fill_69 : decode cX7_fill 69 = .ok (.iload_n 1, 1) := by decide +kernel
theorem dX7_fill_70 : decode cX7_fill 70 = .ok (.iadd, 1) := by decide +kernel
theorem dX7_fill_71 : decode cX7_fill 71 = .ok (.iaload, 1) := by decide +kernel
theorem dX7_fill_72 : decode cX7_fill 72 = .ok (.i2l, 1) := by decide +kernel
theorem dX7_fill_73 : decode cX7_fill 73 = .ok (.lastore, 1) := by decide +kernel
theorem dX7_fill_74 : decode cX7_fill 74 = .ok (.iinc 2 1, 3) := by decide +kernel
theorem dX7_fill_77 : decode cX7_fill 77 = .ok (.goto (-67), 3) := by decide +kernel
theorem dX7_fill_80 : decode cX7_fill 80 = .ok (.iconst 0, 1) := by decide +kernel
theorem dX7_fill_81 : decode cX7_fill 81 = .ok (.istore_n 2, 1) := by decide +kernel
theorem dX7_fill_82 : decode cX7_fill 82 = .ok (.iload_n 2, 1) := by decide +kernel
theorem dX7_fill_83 : decode cX7_fill 83 = .ok (.aload_n 0, 1) := by decide +kernel
theorem dX7_fill_84 : decode cX7_fill 84 = .ok (.getfield 37, 3) := by decide +kernel
theorem dX7_fill_87 : decode cX7_fill 87 = .ok (.getfield 90, 3) := by decide +kernel
theorem dX7_fill_90 : decode cX7_fill 90 = .ok (.if_icmp .ge 149, 3) := by decide +kernel
theorem dX7_fill_93 : decode cX7_fill 93 = .ok (.aload_n 0, 1) := by decide +kernel
theorem dX7_fill_94 : decode cX7_fill 94 = .ok (.getfield 37, 3) := by decide +kernel
theorem dX7_fill_97 : decode cX7_fill 97 = .ok (.getfield 96, 3) := by decide +kernel
theorem dX7_fill_100 : decode cX7_fill 100 = .ok (.iload_n 2, 1) := by decide +kernel
theorem dX7_fill_101 : decode cX7_fill 101 = .ok (.iaload, 1) := by decide +kernel
theorem dX7_fill_102 : decode cX7_fill 102 = .ok (.istore_n 3, 1) := by decide +kernel
theorem dX7_fill_103 : decode cX7_fill 103 = .ok (.aload_n 0, 1) := by decide +kernel
theorem dX7_fill_104 : decode cX7_fill 104 = .ok (.getfield 37, 3) := by decide +kernel
theorem dX7_fill_107 : decode cX7_fill 107 = .ok (.getfield 99, 3) := by decide +kernel
theorem dX7_fill_110 : decode cX7_fill 110 = .ok (.iload_n 2, 1) := by decide +kernel
theorem dX7_fill_111 : decode cX7_fill 111 = .ok (.iaload, 1) := by decide +kernel
theorem dX7_fill_112 : decode cX7_fill 112 = .ok (.istore 4, 2) := by decide +kernel
theorem dX7_fill_114 : decode cX7_fill 114 = .ok (.aload_n 0, 1) := by decide +kernel
theorem dX7_fill_115 : decode cX7_fill 115 = .ok (.getfield 37, 3) := by decide +kernel
theorem dX7_fill_118 : decode cX7_fill 118 = .ok (.getfield 93, 3) := by decide +kernel
theorem dX7_fill_121 : decode cX7_fill 121 = .ok (.iload_n 2, 1) := by decide +kernel
theorem dX7_fill_122 : decode cX7_fill 122 = .ok (.ishr, 1) := by decide +kernel
theorem dX7_fill_123 : decode cX7_fill 123 = .ok (.iconst 1, 1) := by decide +kernel
theorem dX7_fill_124 : decode cX7_fill 124 = .ok (.iand, 1) := by decide +kernel
theorem dX7_fill_125 : decode cX7_fill 125 = .ok (.iconst 1, 1) := by decide +kernel
theorem dX7_fill_126 : decode cX7_fill 126 = .ok (.if_icmp .ne 107, 3) := by decide +kernel
theorem dX7_fill_129 : decode cX7_fill 129 = .ok (.aload_n 0, 1) := by decide +kernel
theorem dX7_fill_130 : decode cX7_fill 130 = .ok (.iload_n 3, 1) := by decide +kernel
theorem dX7_fill_131 : decode cX7_fill 131 = .ok (.invokevirtual 52, 3) := by decide +kernel
theorem dX7_fill_134 : decode cX7_fill 134 = .ok (.ifCond .ne 99, 3) := by decide +kernel
theorem dX7_fill_137 : decode cX7_fill 137 = .ok (.aload_n 0, 1) := by decide +kernel
theorem dX7_fill_138 : decode cX7_fill 138 = .ok (.getfield 18, 3) := by decide +kernel
theorem dX7_fill_141 : decode cX7_fill 141 = .ok (.iload_n 3, 1) := by decide +kernel
theorem dX7_fill_142 : decode cX7_fill 142 = .ok (.iconst 5, 1) := by decide +kernel
theorem dX7_fill_143 : decode cX7_fill 143 = .ok (.imul, 1) := by decide +kernel
theorem dX7_fill_144 : decode cX7_fill 144 = .ok (.iload_n 3, 1) := by decide +kernel
theorem dX7_fill_145 : decode cX7_fill 145 = .ok (.iadd, 1) := by decide +kernel
theorem dX7_fill_146 : decode cX7_fill 146 = .ok (.dup2, 1) := by decide +kernel
theorem dX7_fill_147 : decode cX7_fill 147 = .ok (.laload, 1) := by decide +kernel
theorem dX7_fill_148 : decode cX7_fill 148 = .ok (.aload_n 0, 1) := by decide +kernel
theorem dX7_fill_149 : decode cX7_fill 149 = .ok (.getfield 37, 3) := by decide +kernel
theorem dX7_fill_152 : decode cX7_fill 152 = .ok (.getfield 123, 3) := by decide +kernel
theorem dX7_fill_155 : decode cX7_fill 155 = .ok (.iload_n 2, 1) := by decide +kernel
theorem dX7_fill_156 : decode cX7_fill 156 = .ok (.iaload, 1) := by decide +kernel
theorem dX7_fill_157 : decode cX7_fill 157 = .ok (.i2l, 1) := by decide +kernel
theorem dX7_fill_158 : decode cX7_fill 158 = .ok (.ladd, 1) := by decide +kernel
theorem dX7_fill_159 : decode cX7_fill 159 = .ok (.lastore, 1) := by decide +kernel
theorem dX7_fill_160 : decode cX7_fill 160 = .ok (.aload_n 0, 1) := by decide +kernel
theorem dX7_fill_161 : decode cX7_fill 161 = .ok (.getfield 18, 3) := by decide +kernel
theorem dX7_fill_164 : decode cX7_fill 164 = .ok (.iload 4, 2) := by decide +kernel
theorem dX7_fill_166 : decode cX7_fill 166 = .ok (.iconst 5, 1) := by decide +kernel
theorem dX7_fill_167 : decode cX7_fill 167 = .ok (.imul, 1) := by decide +kernel
theorem dX7_fill_168 : decode cX7_fill 168 = .ok (.iload 4, 2) := by decide +kernel
theorem dX7_fill_170 : decode cX7_fill 170 = .ok (.iadd, 1) := by decide +kernel
theorem dX7_fill_171 : decode cX7_fill 171 = .ok (.dup2, 1) := by decide +kernel
theorem dX7_fill_172 : decode cX7_fill 172 = .ok (.laload, 1) := by decide +kernel
theorem dX7_fill_173 : decode cX7_fill 173 = .ok (.aload_n 0, 1) := by decide +kernel
theorem dX7_fill_174 : decode cX7_fill 174 = .ok (.getfield 37, 3) := by decide +kernel
theorem dX7_fill_177 : decode cX7_fill 177 = .ok (.getfield 123, 3) := by decide +kernel
theorem dX7_fill_180 : decode cX7_fill 180 = .ok (.iload_n 2, 1) := by decide +kernel
theorem dX7_fill_181 : decode cX7_fill 181 = .ok (.iaload, 1) := by decide +kernel
theorem dX7_fill_182 : decode cX7_fill 182 = .ok (.i2l, 1) := by decide +kernel
theorem dX7_fill_183 : decode cX7_fill 183 = .ok (.ladd, 1) := by decide +kernel
theorem dX7_fill_184 : decode cX7_fill 184 = .ok (.lastore, 1) := by decide +kernel
theorem dX7_fill_185 : decode cX7_fill 185 = .ok (.aload_n 0, 1) := by decide +kernel
theorem dX7_fill_186 : decode cX7_fill 186 = .ok (.getfield 18, 3) := by decide +kernel
theorem dX7_fill_189 : decode cX7_fill 189 = .ok (.iload_n 3, 1) := by decide +kernel
theorem dX7_fill_190 : decode cX7_fill 190 = .ok (.iconst 5, 1) := by decide +kernel
theorem dX7_fill_191 : decode cX7_fill 191 = .ok (.imul, 1) := by decide +kernel
theorem dX7_fill_192 : decode cX7_fill 192 = .ok (.iload 4, 2) := by decide +kernel
theorem dX7_fill_194 : decode cX7_fill 194 = .ok (.iadd, 1) := by decide +kernel
theorem dX7_fill_195 : decode cX7_fill 195 = .ok (.dup2, 1) := by decide +kernel
theorem dX7_fill_196 : decode cX7_fill 196 = .ok (.laload, 1) := by decide +kernel
theorem dX7_fill_197 : decode cX7_fill 197 = .ok (.aload_n 0, 1) := by decide +kernel
theorem dX7_fill_198 : decode cX7_fill 198 = .ok (.getfield 37, 3) := by decide +kernel
theorem dX7_fill_201 : decode cX7_fill 201 = .ok (.getfield 123, 3) := by decide +kernel
theorem dX7_fill_204 : decode cX7_fill 204 = .ok (.iload_n 2, 1) := by decide +kernel
theorem dX7_fill_205 : decode cX7_fill 205 = .ok (.iaload, 1) := by decide +kernel
theorem dX7_fill_206 : decode cX7_fill 206 = .ok (.i2l, 1) := by decide +kernel
theorem dX7_fill_207 : decode cX7_fill 207 = .ok (.lsub, 1) := by decide +kernel
theorem dX7_fill_208 : decode cX7_fill 208 = .ok (.lastore, 1) := by decide +kernel
theorem dX7_fill_209 : decode cX7_fill 209 = .ok (.aload_n 0, 1) := by decide +kernel
theorem dX7_fill_210 : decode cX7_fill 210 = .ok (.getfield 18, 3) := by decide +kernel
theorem dX7_fill_213 : decode cX7_fill 213 = .ok (.iload 4, 2) := by decide +kernel
theorem dX7_fill_215 : decode cX7_fill 215 = .ok (.iconst 5, 1) := by decide +kernel
theorem dX7_fill_216 : decode cX7_fill 216 = .ok (.imul, 1) := by decide +kernel
theorem dX7_fill_217 : decode cX7_fill 217 = .ok (.iload_n 3, 1) := by decide +kernel
theorem dX7_fill_218 : decode cX7_fill 218 = .ok (.iadd, 1) := by decide +kernel
theorem dX7_fill_219 : decode cX7_fill 219 = .ok (.dup2, 1) := by decide +kernel
theorem dX7_fill_220 : decode cX7_fill 220 = .ok (.laload, 1) := by decide +kernel
theorem dX7_fill_221 : decode cX7_fill 221 = .ok (.aload_n 0, 1) := by decide +kernel
theorem dX7_fill_222 : decode cX7_fill 222 = .ok (.getfield 37, 3) := by decide +kernel
theorem dX7_fill_225 : decode cX7_fill 225 = .ok (.getfield 123, 3) := by decide +kernel
theorem dX7_fill_228 : decode cX7_fill 228 = .ok (.iload_n 2, 1) := by decide +kernel
theorem dX7_fill_229 : decode cX7_fill 229 = .ok (.iaload, 1) := by decide +kernel
theorem dX7_fill_230 : decode cX7_fill 230 = .ok (.i2l, 1) := by decide +kernel
theorem dX7_fill_231 : decode cX7_fill 231 = .ok (.lsub, 1) := by decide +kernel
theorem dX7_fill_232 : decode cX7_fill 232 = .ok (.lastore, 1) := by decide +kernel
theorem dX7_fill_233 : decode cX7_fill 233 = .ok (.iinc 2 1, 3) := by decide +kernel
theorem dX7_fill_236 : decode cX7_fill 236 = .ok (.goto (-154), 3) := by decide +kernel
theorem dX7_fill_239 : decode cX7_fill 239 = .ok (.return_, 1) := by decide +kernel
theorem dX7_determinant_0 : decode cX7_determinant 0 = .ok (.aload_n 0, 1) := by decide +kernel
theorem dX7_determinant_1 : decode cX7_determinant 1 = .ok (.getfield 25, 3) := by decide +kernel
theorem dX7_determinant_4 : decode cX7_determinant 4 = .ok (.iconst 0, 1) := by decide +kernel
theorem dX7_determinant_5 : decode cX7_determinant 5 = .ok (.lconst 1, 1) := by decide +kernel
theorem dX7_determinant_6 : decode cX7_determinant 6 = .ok (.lastore, 1) := by decide +kernel
theorem dX7_determinant_7 : decode cX7_determinant 7 = .ok (.iconst 1, 1) := by decide +kernel
theorem dX7_determinant_8 : decode cX7_determinant 8 = .ok (.istore_n 2, 1) := by decide +kernel
theorem dX7_determinant_9 : decode cX7_determinant 9 = .ok (.iload_n 2, 1) := by decide +kernel
theorem dX7_determinant_10 : decode cX7_determinant 10 = .ok (.aload_n 0, 1) := by decide +kernel
theorem dX7_determinant_11 : decode cX7_determinant 11 = .ok (.getfield 25, 3) := by decide +kernel
theorem dX7_determinant_14 : decode cX7_determinant 14 = .ok (.arraylength, 1) := by decide +kernel
theorem dX7_determinant_15 : decode cX7_determinant 15 = .ok (.if_icmp .ge 133, 3) := by decide +kernel
theorem dX7_determinant_18 : decode cX7_determinant 18 = .ok (.iload_n 2, 1) := by decide +kernel
theorem dX7_determinant_19 : decode cX7_determinant 19 = .ok (.invokestatic 126, 3) := by decide +kernel
theorem dX7_determinant_22 : decode cX7_determinant 22 = .ok (.iconst 1, 1) := by decide +kernel
theorem dX7_determinant_23 : decode cX7_determinant 23 = .ok (.isub, 1) := by decide +kernel
theorem dX7_determinant_24 : decode cX7_determinant 24 = .ok (.istore_n 3, 1) := by decide +kernel
theorem dX7_determinant_25 : decode cX7_determinant 25 = .ok (.lconst 0, 1) := by decide +kernel
theorem dX7_determinant_26 : decode cX7_determinant 26 = .ok (.lstore 4, 2) := by decide +kernel
theorem dX7_determinant_28 : decode cX7_determinant 28 = .ok (.iconst 0, 1) := by decide +kernel
theorem dX7_determinant_29 : decode cX7_determinant 29 = .ok (.istore 6, 2) := by decide +kernel
theorem dX7_determinant_31 : decode cX7_determinant 31 = .ok (.iload 6, 2) := by decide +kernel
theorem dX7_determinant_33 : decode cX7_determinant 33 = .ok (.iconst 5, 1) := by decide +kernel
theorem dX7_determinant_34 : decode cX7_determinant 34 = .ok (.if_icmp .ge 100, 3) := by decide +kernel
theorem dX7_determinant_37 : decode cX7_determinant 37 = .ok (.iload_n 2, 1) := by decide +kernel
theorem dX7_determinant_38 : decode cX7_determinant 38 = .ok (.iload 6, 2) := by decide +kernel
theorem dX7_determinant_40 : decode cX7_determinant 40 = .ok (.ishr, 1) := by decide +kernel
theorem dX7_determinant_41 : decode cX7_determinant 41 = .ok (.iconst 1, 1) := by decide +kernel
theorem dX7_determinant_42 : decode cX7_determinant 42 = .ok (.iand, 1) := by decide +kernel
theorem dX7_determinant_43 : decode cX7_determinant 43 = .ok (.iconst 1, 1) := by decide +kernel
theorem dX7_determinant_44 : decode cX7_determinant 44 = .ok (.if_icmp .ne 84, 3) := by decide +kernel
theorem dX7_determinant_47 : decode cX7_determinant 47 = .ok (.iload 6, 2) := by decide +kernel
theorem dX7_determinant_49 : decode cX7_determinant 49 = .ok (.iload_n 1, 1) := by decide +kernel
theorem dX7_determinant_50 : decode cX7_determinant 50 = .ok (.if_icmp .ne 12, 3) := by decide +kernel
theorem dX7_determinant_53 : decode cX7_determinant 53 = .ok (.aload_n 0, 1) := by decide +kernel
theorem dX7_determinant_54 : decode cX7_determinant 54 = .ok (.getfield 22, 3) := by decide +kernel
theorem dX7_determinant_57 : decode cX7_determinant 57 = .ok (.iload_n 3, 1) := by decide +kernel
theorem dX7_determinant_58 : decode cX7_determinant 58 = .ok (.laload, 1) := by decide +kernel
theorem dX7_determinant_59 : decode cX7_determinant 59 = .ok (.goto 14, 3) := by decide +kernel
theorem dX7_determinant_62 : decode cX7_determinant 62 = .ok (.aload_n 0, 1) := by decide +kernel
theorem dX7_determinant_63 : decode cX7_determinant 63 = .ok (.getfield 18, 3) := by decide +kernel
theorem dX7_determinant_66 : decode cX7_determinant 66 = .ok (.iload_n 3, 1) := by decide +kernel
theorem dX7_determinant_67 : decode cX7_determinant 67 = .ok (.iconst 5, 1) := by decide +kernel
theorem dX7_determinant_68 : decode cX7_determinant 68 = .ok (.imul, 1) := by decide +kernel
theorem dX7_determinant_69 : decode cX7_determinant 69 = .ok (.iload 6, 2) := by decide +kernel
theorem dX7_determinant_71 : decode cX7_determinant 71 = .ok (.iadd, 1) := by decide +kernel
theorem dX7_determinant_72 : decode cX7_determinant 72 = .ok (.laload, 1) := by decide +kernel
theorem dX7_determinant_73 : decode cX7_determinant 73 = .ok (.lstore 7, 2) := by decide +kernel
theorem dX7_determinant_75 : decode cX7_determinant 75 = .ok (.lload 7, 2) := by decide +kernel
theorem dX7_determinant_77 : decode cX7_determinant 77 = .ok (.aload_n 0, 1) := by decide +kernel
theorem dX7_determinant_78 : decode cX7_determinant 78 = .ok (.getfield 25, 3) := by decide +kernel
theorem dX7_determinant_81 : decode cX7_determinant 81 = .ok (.iload_n 2, 1) := by decide +kernel
theorem dX7_determinant_82 : decode cX7_determinant 82 = .ok (.iconst 1, 1) := by decide +kernel
theorem dX7_determinant_83 : decode cX7_determinant 83 = .ok (.iload 6, 2) := by decide +kernel
theorem dX7_determinant_85 : decode cX7_determinant 85 = .ok (.ishl, 1) := by decide +kernel
theorem dX7_determinant_86 : decode cX7_determinant 86 = .ok (.ixor, 1) := by decide +kernel
theorem dX7_determinant_87 : decode cX7_determinant 87 = .ok (.laload, 1) := by decide +kernel
theorem dX7_determinant_88 : decode cX7_determinant 88 = .ok (.lmul, 1) := by decide +kernel
theorem dX7_determinant_89 : decode cX7_determinant 89 = .ok (.lstore 9, 2) := by decide +kernel
theorem dX7_determinant_91 : decode cX7_determinant 91 = .ok (.iload_n 2, 1) := by decide +kernel
theorem dX7_determinant_92 : decode cX7_determinant 92 = .ok (.iload 6, 2) := by decide +kernel
theorem dX7_determinant_94 : decode cX7_determinant 94 = .ok (.ishr, 1) := by decide +kernel
theorem dX7_determinant_95 : decode cX7_determinant 95 = .ok (.invokestatic 126, 3) := by decide +kernel
theorem dX7_determinant_98 : decode cX7_determinant 98 = .ok (.iconst 1, 1) := by decide +kernel
theorem dX7_determinant_99 : decode cX7_determinant 99 = .ok (.iand, 1) := by decide +kernel
theorem dX7_determinant_100 : decode cX7_determinant 100 = .ok (.ifCond .ne 7, 3) := by decide +kernel
theorem dX7_determinant_103 : decode cX7_determinant 103 = .ok (.iconst 1, 1) := by decide +kernel
theorem dX7_determinant_104 : decode cX7_determinant 104 = .ok (.goto 4, 3) := by decide +kernel
theorem dX7_determinant_107 : decode cX7_determinant 107 = .ok (.iconst 0, 1) := by decide +kernel
theorem dX7_determinant_108 : decode cX7_determinant 108 = .ok (.istore 11, 2) := by decide +kernel
theorem dX7_determinant_110 : decode cX7_determinant 110 = .ok (.lload 4, 2) := by decide +kernel
theorem dX7_determinant_112 : decode cX7_determinant 112 = .ok (.iload 11, 2) := by decide +kernel
theorem dX7_determinant_114 : decode cX7_determinant 114 = .ok (.ifCond .eq 9, 3) := by decide +kernel
theorem dX7_determinant_117 : decode cX7_determinant 117 = .ok (.lload 9, 2) := by decide +kernel
theorem dX7_determinant_119 : decode cX7_determinant 119 = .ok (.lneg, 1) := by decide +kernel
theorem dX7_determinant_120 : decode cX7_determinant 120 = .ok (.goto 5, 3) := by decide +kernel
theorem dX7_determinant_123 : decode cX7_determinant 123 = .ok (.lload 9, 2) := by decide +kernel
theorem dX7_determinant_125 : decode cX7_determinant 125 = .ok (.ladd, 1) := by decide +kernel
theorem dX7_determinant_126 : decode cX7_determinant 126 = .ok (.lstore 4, 2) := by decide +kernel
theorem dX7_determinant_128 : decode cX7_determinant 128 = .ok (.iinc 6 1, 3) := by decide +kernel
theorem dX7_determinant_131 : decode cX7_determinant 131 = .ok (.goto (-100), 3) := by decide +kernel
theorem dX7_determinant_134 : decode cX7_determinant 134 = .ok (.aload_n 0, 1) := by decide +kernel
theorem dX7_determinant_135 : decode cX7_determinant 135 = .ok (.getfield 25, 3) := by decide +kernel
theorem dX7_determinant_138 : decode cX7_determinant 138 = .ok (.iload_n 2, 1) := by decide +kernel
theorem dX7_determinant_139 : decode cX7_determinant 139 = .ok (.lload 4, 2) := by decide +kernel
theorem dX7_determinant_141 : decode cX7_determinant 141 = .ok (.lastore, 1) := by decide +kernel
theorem dX7_determinant_142 : decode cX7_determinant 142 = .ok (.iinc 2 1, 3) := by decide +kernel
theorem dX7_determinant_145 : decode cX7_determinant 145 = .ok (.goto (-136), 3) := by decide +kernel
theorem dX7_determinant_148 : decode cX7_determinant 148 = .ok (.aload_n 0, 1) := by decide +kernel
theorem dX7_determinant_149 : decode cX7_determinant 149 = .ok (.getfield 25, 3) := by decide +kernel
theorem dX7_determinant_152 : decode cX7_determinant 152 = .ok (.aload_n 0, 1) := by decide +kernel
theorem dX7_determinant_153 : decode cX7_determinant 153 = .ok (.getfield 25, 3) := by decide +kernel
theorem dX7_determinant_156 : decode cX7_determinant 156 = .ok (.arraylength, 1) := by decide +kernel
theorem dX7_determinant_157 : decode cX7_determinant 157 = .ok (.iconst 1, 1) := by decide +kernel
theorem dX7_determinant_158 : decode cX7_determinant 158 = .ok (.isub, 1) := by decide +kernel
theorem dX7_determinant_159 : decode cX7_determinant 159 = .ok (.laload, 1) := by decide +kernel
theorem dX7_determinant_160 : decode cX7_determinant 160 = .ok (.lreturn, 1) := by decide +kernel
theorem dX7_common_0 : decode cX7_common 0 = .ok (.lload_n 0, 1) := by decide +kernel
theorem dX7_common_1 : decode cX7_common 1 = .ok (.invokestatic 131, 3) := by decide +kernel
theorem dX7_common_4 : decode cX7_common 4 = .ok (.lstore 4, 2) := by decide +kernel
theorem dX7_common_6 : decode cX7_common 6 = .ok (.lload_n 2, 1) := by decide +kernel
theorem dX7_common_7 : decode cX7_common 7 = .ok (.invokestatic 131, 3) := by decide +kernel
theorem dX7_common_10 : decode cX7_common 10 = .ok (.lstore 6, 2) := by decide +kernel
theorem dX7_common_12 : decode cX7_common 12 = .ok (.iconst 0, 1) := by decide +kernel
theorem dX7_common_13 : decode cX7_common 13 = .ok (.istore 8, 2) := by decide +kernel
theorem dX7_common_15 : decode cX7_common 15 = .ok (.iload 8, 2) := by decide +kernel
theorem dX7_common_17 : decode cX7_common 17 = .ok (.sipush 200, 3) := by decide +kernel
theorem dX7_common_20 : decode cX7_common 20 = .ok (.if_icmp .ge 31, 3) := by decide +kernel
theorem dX7_common_23 : decode cX7_common 23 = .ok (.lload 6, 2) := by decide +kernel
theorem dX7_common_25 : decode cX7_common 25 = .ok (.lconst 0, 1) := by decide +kernel
theorem dX7_common_26 : decode cX7_common 26 = .ok (.lcmp, 1) := by decide +kernel
theorem dX7_common_27 : decode cX7_common 27 = .ok (.ifCond .eq 24, 3) := by decide +kernel
theorem dX7_common_30 : decode cX7_common 30 = .ok (.lload 4, 2) := by decide +kernel
theorem dX7_common_32 : decode cX7_common 32 = .ok (.lload 6, 2) := by decide +kernel
theorem dX7_common_34 : decode cX7_common 34 = .ok (.lrem, 1) := by decide +kernel
theorem dX7_common_35 : decode cX7_common 35 = .ok (.lstore 9, 2) := by decide +kernel
theorem dX7_common_37 : decode cX7_common 37 = .ok (.lload 6, 2) := by decide +kernel
theorem dX7_common_39 : decode cX7_common 39 = .ok (.lstore 4, 2) := by decide +kernel
theorem dX7_common_41 : decode cX7_common 41 = .ok (.lload 9, 2) := by decide +kernel
theorem dX7_common_43 : decode cX7_common 43 = .ok (.lstore 6, 2) := by decide +kernel
theorem dX7_common_45 : decode cX7_common 45 = .ok (.iinc 8 1, 3) := by decide +kernel
theorem dX7_common_48 : decode cX7_common 48 = .ok (.goto (-33), 3) := by decide +kernel
theorem dX7_common_51 : decode cX7_common 51 = .ok (.lload 4, 2) := by decide +kernel
theorem dX7_common_53 : decode cX7_common 53 = .ok (.lreturn, 1) := by decide +kernel
theorem dX8_init_0 : decode cX8_init 0 = .ok (.aload_n 0, 1) := by decide +kernel
theorem dX8_init_1 : decode cX8_init 1 = .ok (.invokespecial 3, 3) := by decide +kernel
theorem dX8_init_4 : decode cX8_init 4 = .ok (.aload_n 0, 1) := by decide +kernel
theorem dX8_init_5 : decode cX8_init 5 = .ok (.bipush 16, 2) := by decide +kernel
theorem dX8_init_7 : decode cX8_init 7 = .ok (.newarray .int, 2) := by decide +kernel
theorem dX8_init_9 : decode cX8_init 9 = .ok (.putfield 9, 3) := by decide +kernel
theorem dX8_init_12 : decode cX8_init 12 = .ok (.aload_n 0, 1) := by decide +kernel
theorem dX8_init_13 : decode cX8_init 13 = .ok (.bipush 16, 2) := by decide +kernel
theorem dX8_init_15 : decode cX8_init 15 = .ok (.newarray .int, 2) := by decide +kernel
theorem dX8_init_17 : decode cX8_init 17 = .ok (.putfield 15, 3) := by decide +kernel
theorem dX8_init_20 : decode cX8_init 20 = .ok (.aload_n 0, 1) := by decide +kernel
theorem dX8_init_21 : decode cX8_init 21 = .ok (.bipush 16, 2) := by decide +kernel
theorem dX8_init_23 : decode cX8_init 23 = .ok (.bipush 40, 2) := by decide +kernel
theorem dX8_init_25 : decode cX8_init 25 = .ok (.multianewarray 18 2, 4) := by decide +kernel
theorem dX8_init_29 : decode cX8_init 29 = .ok (.putfield 20, 3) := by decide +kernel
theorem dX8_init_32 : decode cX8_init 32 = .ok (.aload_n 0, 1) := by decide +kernel
theorem dX8_init_33 : decode cX8_init 33 = .ok (.aload_n 1, 1) := by decide +kernel
theorem dX8_init_34 : decode cX8_init 34 = .ok (.putfield 23, 3) := by decide +kernel
theorem dX8_init_37 : decode cX8_init 37 = .ok (.aload_n 0, 1) := by decide +kernel
theorem dX8_init_38 : decode cX8_init 38 = .ok (.aload_n 2, 1) := by decide +kernel
theorem dX8_init_39 : decode cX8_init 39 = .ok (.putfield 27, 3) := by decide +kernel
theorem dX8_init_42 : decode cX8_init 42 = .ok (.return_, 1) := by decide +kernel
theorem dX8_add_0 : decode cX8_add 0 = .ok (.aload_n 0, 1) := by decide +kernel
theorem dX8_add_1 : decode cX8_add 1 = .ok (.getfield 31, 3) := by decide +kernel
theorem dX8_add_4 : decode cX8_add 4 = .ok (.bipush 16, 2) := by decide +kernel
theorem dX8_add_6 : decode cX8_add 6 = .ok (.if_icmp .lt 6, 3) := by decide +kernel
theorem dX8_add_9 : decode cX8_add 9 = .ok (.bipush (-9), 2) := by decide +kernel
theorem dX8_add_11 : decode cX8_add 11 = .ok (.ireturn, 1) := by decide +kernel
theorem dX8_add_12 : decode cX8_add 12 = .ok (.aload_n 0, 1) := by decide +kernel
theorem dX8_add_13 : decode cX8_add 13 = .ok (.getfield 9, 3) := by decide +kernel
theorem dX8_add_16 : decode cX8_add 16 = .ok (.aload_n 0, 1) := by decide +kernel
theorem dX8_add_17 : decode cX8_add 17 = .ok (.getfield 31, 3) := by decide +kernel
theorem dX8_add_20 : decode cX8_add 20 = .ok (.aload_n 1, 1) := by decide +kernel
theorem dX8_add_21 : decode cX8_add 21 = .ok (.getfield 35, 3) := by decide +kernel
theorem dX8_add_24 : decode cX8_add 24 = .ok (.iastore, 1) := by decide +kernel
theorem dX8_add_25 : decode cX8_add 25 = .ok (.aload_n 0, 1) := by decide +kernel
theorem dX8_add_26 : decode cX8_add 26 = .ok (.getfield 15, 3) := by decide +kernel
theorem dX8_add_29 : decode cX8_add 29 = .ok (.aload_n 0, 1) := by decide +kernel
theorem dX8_add_30 : decode cX8_add 30 = .ok (.getfield 31, 3) := by decide +kernel
theorem dX8_add_33 : decode cX8_add 33 = .ok (.aload_n 1, 1) := by decide +kernel
theorem dX8_add_34 : decode cX8_add 34 = .ok (.getfield 39, 3) := by decide +kernel
theorem dX8_add_37 : decode cX8_add 37 = .ok (.iastore, 1) := by decide +kernel
theorem dX8_add_38 : decode cX8_add 38 = .ok (.aload_n 1, 1) := by decide +kernel
theorem dX8_add_39 : decode cX8_add 39 = .ok (.getfield 41, 3) := by decide +kernel
theorem dX8_add_42 : decode cX8_add 42 = .ok (.iconst 0, 1) := by decide +kernel
theorem dX8_add_43 : decode cX8_add 43 = .ok (.aload_n 0, 1) := by decide +kernel
theorem dX8_add_44 : decode cX8_add 44 = .ok (.getfield 20, 3) := by decide +kernel
theorem dX8_add_47 : decode cX8_add 47 = .ok (.aload_n 0, 1) := by decide +kernel
theorem dX8_add_48 : decode cX8_add 48 = .ok (.getfield 31, 3) := by decide +kernel
theorem dX8_add_51 : decode cX8_add 51 = .ok (.aaload, 1) := by decide +kernel
theorem dX8_add_52 : decode cX8_add 52 = .ok (.iconst 0, 1) := by decide +kernel
theorem dX8_add_53 : decode cX8_add 53 = .ok (.bipush 40, 2) := by decide +kernel
theorem dX8_add_55 : decode cX8_add 55 = .ok (.invokestatic 43, 3) := by decide +kernel
theorem dX8_add_58 : decode cX8_add 58 = .ok (.aload_n 0, 1) := by decide +kernel
theorem dX8_add_59 : decode cX8_add 59 = .ok (.dup, 1) := by decide +kernel
theorem dX8_add_60 : decode cX8_add 60 = .ok (.getfield 49, 3) := by decide +kernel
theorem dX8_add_63 : decode cX8_add 63 = .ok (.iconst 1, 1) := by decide +kernel
theorem dX8_add_64 : decode cX8_add 64 = .ok (.aload_n 0, 1) := by decide +kernel
theorem dX8_add_65 : decode cX8_add 65 = .ok (.getfield 31, 3) := by decide +kernel
theorem dX8_add_68 : decode cX8_add 68 = .ok (.ishl, 1) := by decide +kernel
theorem dX8_add_69 : decode cX8_add 69 = .ok (.ior, 1) := by decide +kernel
theorem dX8_add_70 : decode cX8_add 70 = .ok (.putfield 49, 3) := by decide +kernel
theorem dX8_add_73 : decode cX8_add 73 = .ok (.aload_n 0, 1) := by decide +kernel
theorem dX8_add_74 : decode cX8_add 74 = .ok (.dup, 1) := by decide +kernel
theorem dX8_add_75 : decode cX8_add 75 = .ok (.getfield 52, 3) := by decide +kernel
theorem dX8_add_78 : decode cX8_add 78 = .ok (.aload_n 1, 1) := by decide +kernel
theorem dX8_add_79 : decode cX8_add 79 = .ok (.getfield 55, 3) := by decide +kernel
theorem dX8_add_82 : decode cX8_add 82 = .ok (.ifCond .eq 12, 3) := by decide +kernel
theorem dX8_add_85 : decode cX8_add 85 = .ok (.iconst 1, 1) := by decide +kernel
theorem dX8_add_86 : decode cX8_add 86 = .ok (.aload_n 0, 1) := by decide +kernel
theorem dX8_add_87 : decode cX8_add 87 = .ok (.getfield 31, 3) := by decide +kernel
theorem dX8_add_90 : decode cX8_add 90 = .ok (.ishl, 1) := by decide +kernel
theorem dX8_add_91 : decode cX8_add 91 = .ok (.goto 4, 3) := by decide +kernel
theorem dX8_add_94 : decode cX8_add 94 = .ok (.iconst 0, 1) := by decide +kernel
theorem dX8_add_95 : decode cX8_add 95 = .ok (.ior, 1) := by decide +kernel
theorem dX8_add_96 : decode cX8_add 96 = .ok (.putfield 52, 3) := by decide +kernel
theorem dX8_add_99 : decode cX8_add 99 = .ok (.aload_n 0, 1) := by decide +kernel
theorem dX8_add_100 : decode cX8_add 100 = .ok (.dup, 1) := by decide +kernel
theorem dX8_add_101 : decode cX8_add 101 = .ok (.getfield 31, 3) := by decide +kernel
theorem dX8_add_104 : decode cX8_add 104 = .ok (.dup_x1, 1) := by decide +kernel
theorem dX8_add_105 : decode cX8_add 105 = .ok (.iconst 1, 1) := by decide +kernel
theorem dX8_add_106 : decode cX8_add 106 = .ok (.iadd, 1) := by decide +kernel
theorem dX8_add_107 : decode cX8_add 107 = .ok (.putfield 31, 3) := by decide +kernel
theorem dX8_add_110 : decode cX8_add 110 = .ok (.ireturn, 1) := by decide +kernel
theorem dX8_stands_0 : decode cX8_stands 0 = .ok (.aload_n 0, 1) := by decide +kernel
theorem dX8_stands_1 : decode cX8_stands 1 = .ok (.getfield 49, 3) := by decide +kernel
theorem dX8_stands_4 : decode cX8_stands 4 = .ok (.iload_n 1, 1) := by decide +kernel
theorem dX8_stands_5 : decode cX8_stands 5 = .ok (.ishr, 1) := by decide +kernel
theorem dX8_stands_6 : decode cX8_stands 6 = .ok (.iconst 1, 1) := by decide +kernel
theorem dX8_stands_7 : decode cX8_stands 7 = .ok (.iand, 1) := by decide +kernel
theorem dX8_stands_8 : decode cX8_stands 8 = .ok (.iconst 1, 1) := by decide +kernel
theorem dX8_stands_9 : decode cX8_stands 9 = .ok (.if_icmp .ne 7, 3) := by decide +kernel
theorem dX8_stands_12 : decode cX8_stands 12 = .ok (.iconst 1, 1) := by decide +kernel
theorem dX8_stands_13 : decode cX8_stands 13 = .ok (.goto 4, 3) := by decide +kernel
theorem dX8_stands_16 : decode cX8_stands 16 = .ok (.iconst 0, 1) := by decide +kernel
theorem dX8_stands_17 : decode cX8_stands 17 = .ok (.ireturn, 1) := by decide +kernel
theorem dX8_drop_0 : decode cX8_drop 0 = .ok (.aload_n 0, 1) := by decide +kernel
theorem dX8_drop_1 : decode cX8_drop 1 = .ok (.dup, 1) := by decide +kernel
theorem dX8_drop_2 : decode cX8_drop 2 = .ok (.getfield 49, 3) := by decide +kernel
theorem dX8_drop_5 : decode cX8_drop 5 = .ok (.iconst 1, 1) := by decide +kernel
theorem dX8_drop_6 : decode cX8_drop 6 = .ok (.iload_n 1, 1) := by decide +kernel
theorem dX8_drop_7 : decode cX8_drop 7 = .ok (.ishl, 1) := by decide +kernel
theorem dX8_drop_8 : decode cX8_drop 8 = .ok (.iconst (-1), 1) := by decide +kernel
theorem dX8_drop_9 : decode cX8_drop 9 = .ok (.ixor, 1) := by decide +kernel
theorem dX8_drop_10 : decode cX8_drop 10 = .ok (.iand, 1) := by decide +kernel
theorem dX8_drop_11 : decode cX8_drop 11 = .ok (.putfield 49, 3) := by decide +kernel
theorem dX8_drop_14 : decode cX8_drop 14 = .ok (.return_, 1) := by decide +kernel
theorem dX8_forbidder_0 : decode cX8_forbidder 0 = .ok (.aload_n 0, 1) := by decide +kernel
theorem dX8_forbidder_1 : decode cX8_forbidder 1 = .ok (.getfield 49, 3) := by decide +kernel
theorem dX8_forbidder_4 : decode cX8_forbidder 4 = .ok (.iload_n 2, 1) := by decide +kernel
theorem dX8_forbidder_5 : decode cX8_forbidder 5 = .ok (.ifCond .eq 10, 3) := by decide +kernel
theorem dX8_forbidder_8 : decode cX8_forbidder 8 = .ok (.aload_n 0, 1) := by decide +kernel
theorem dX8_forbidder_9 : decode cX8_forbidder 9 = .ok (.getfield 52, 3) := by decide +kernel
theorem dX8_forbidder_12 : decode cX8_forbidder 12 = .ok (.goto 9, 3) := by decide +kernel
theorem dX8_forbidder_15 : decode cX8_forbidder 15 = .ok (.aload_n 0, 1) := by decide +kernel
theorem dX8_forbidder_16 : decode cX8_forbidder 16 = .ok (.getfield 52, 3) := by decide +kernel
theorem dX8_forbidder_19 : decode cX8_forbidder 19 = .ok (.iconst (-1), 1) := by decide +kernel
theorem dX8_forbidder_20 : decode cX8_forbidder 20 = .ok (.ixor, 1) := by decide +kernel
theorem dX8_forbidder_21 : decode cX8_forbidder 21 = .ok (.iand, 1) := by decide +kernel
theorem dX8_forbidder_22 : decode cX8_forbidder 22 = .ok (.istore 4, 2) := by decide +kernel
theorem dX8_forbidder_24 : decode cX8_forbidder 24 = .ok (.iconst 0, 1) := by decide +kernel
theorem dX8_forbidder_25 : decode cX8_forbidder 25 = .ok (.istore 5, 2) := by decide +kernel
theorem dX8_forbidder_27 : decode cX8_forbidder 27 = .ok (.iload 5, 2) := by decide +kernel
theorem dX8_forbidder_29 : decode cX8_forbidder 29 = .ok (.aload_n 0, 1) := by decide +kernel
theorem dX8_forbidder_30 : decode cX8_forbidder 30 = .ok (.getfield 31, 3) := by decide +kernel
theorem dX8_forbidder_33 : decode cX8_forbidder 33 = .ok (.if_icmp .ge 44, 3) := by decide +kernel
theorem dX8_forbidder_36 : decode cX8_forbidder 36 = .ok (.iload 4, 2) := by decide +kernel
theorem dX8_forbidder_38 : decode cX8_forbidder 38 = .ok (.iload 5, 2) := by decide +kernel
theorem dX8_forbidder_40 : decode cX8_forbidder 40 = .ok (.ishr, 1) := by decide +kernel
theorem dX8_forbidder_41 : decode cX8_forbidder 41 = .ok (.iconst 1, 1) := by decide +kernel
theorem dX8_forbidder_42 : decode cX8_forbidder 42 = .ok (.iand, 1) := by decide +kernel
theorem dX8_forbidder_43 : decode cX8_forbidder 43 = .ok (.iconst 1, 1) := by decide +kernel
theorem dX8_forbidder_44 : decode cX8_forbidder 44 = .ok (.if_icmp .ne 27, 3) := by decide +kernel
theorem dX8_forbidder_47 : decode cX8_forbidder 47 = .ok (.aload_n 0, 1) := by decide +kernel
theorem dX8_forbidder_48 : decode cX8_forbidder 48 = .ok (.getfield 9, 3) := by decide +kernel
theorem dX8_forbidder_51 : decode cX8_forbidder 51 = .ok (.iload 5, 2) := by decide +kernel
theorem dX8_forbidder_53 : decode cX8_forbidder 53 = .ok (.iaload, 1) := by decide +kernel
theorem dX8_forbidder_54 : decode cX8_forbidder 54 = .ok (.iload_n 1, 1) := by decide +kernel
theorem dX8_forbidder_55 : decode cX8_forbidder 55 = .ok (.if_icmp .ne 16, 3) := by decide +kernel
theorem dX8_forbidder_58 : decode cX8_forbidder 58 = .ok (.aload_n 0, 1) := by decide +kernel
theorem dX8_forbidder_59 : decode cX8_forbidder 59 = .ok (.iload 5, 2) := by decide +kernel
theorem dX8_forbidder_61 : decode cX8_forbidder 61 = .ok (.iload_n 3, 1) := by decide +kernel
theorem dX8_forbidder_62 : decode cX8_forbidder 62 = .ok (.invokevirtual 59, 3) := by decide +kernel
theorem dX8_forbidder_65 : decode cX8_forbidder 65 = .ok (.ifCond .eq 6, 3) := by decide +kernel
theorem dX8_forbidder_68 : decode cX8_forbidder 68 = .ok (.iload 5, 2) := by decide +kernel
theorem dX8_forbidder_70 : decode cX8_forbidder 70 = .ok (.ireturn, 1) := by decide +kernel
theorem dX8_forbidder_71 : decode cX8_forbidder 71 = .ok (.iinc 5 1, 3) := by decide +kernel
theorem dX8_forbidder_74 : decode cX8_forbidder 74 = .ok (.goto (-47), 3) := by decide +kernel
theorem dX8_forbidder_77 : decode cX8_forbidder 77 = .ok (.bipush (-9), 2) := by decide +kernel
theorem dX8_forbidder_79 : decode cX8_forbidder 79 = .ok (.ireturn, 1) := by decide +kernel
theorem dX8_holds_0 : decode cX8_holds 0 = .ok (.lconst 0, 1) := by decide +kernel
theorem dX8_holds_1 : decode cX8_holds 1 = .ok (.lstore_n 3, 1) := by decide +kernel
theorem dX8_holds_2 : decode cX8_holds 2 = .ok (.iconst 0, 1) := by decide +kernel
theorem dX8_holds_3 : decode cX8_holds 3 = .ok (.istore 5, 2) := by decide +kernel
theorem dX8_holds_5 : decode cX8_holds 5 = .ok (.iload 5, 2) := by decide +kernel
theorem dX8_holds_7 : decode cX8_holds 7 = .ok (.aload_n 0, 1) := by decide +kernel
theorem dX8_holds_8 : decode cX8_holds 8 = .ok (.getfield 15, 3) := by decide +kernel
theorem dX8_holds_11 : decode cX8_holds 11 = .ok (.iload_n 1, 1) := by decide +kernel
theorem dX8_holds_12 : decode cX8_holds 12 = .ok (.iaload, 1) := by decide +kernel
theorem dX8_holds_13 : decode cX8_holds 13 = .ok (.if_icmp .ge 109, 3) := by decide +kernel
theorem dX8_holds_16 : decode cX8_holds 16 = .ok (.iload 5, 2) := by decide +kernel
theorem dX8_holds_18 : decode cX8_holds 18 = .ok (.bipush 40, 2) := by decide +kernel
theorem dX8_holds_20 : decode cX8_holds 20 = .ok (.if_icmp .ge 102, 3) := by decide +kernel
theorem dX8_holds_23 : decode cX8_holds 23 = .ok (.aload_n 0, 1) := by decide +kernel
theorem dX8_holds_24 : decode cX8_holds 24 = .ok (.getfield 20, 3) := by decide +kernel
theorem dX8_holds_27 : decode cX8_holds 27 = .ok (.iload_n 1, 1) := by decide +kernel
theorem dX8_holds_28 : decode cX8_holds 28 = .ok (.aaload, 1) := by decide +kernel
theorem dX8_holds_29 : decode cX8_holds 29 = .ok (.iload 5, 2) := by decide +kernel
theorem dX8_holds_31 : decode cX8_holds 31 = .ok (.iaload, 1) := by decide +kernel
theorem dX8_holds_32 : decode cX8_holds 32 = .ok (.istore 6, 2) := by decide +kernel
theorem dX8_holds_34 : decode cX8_holds 34 = .ok (.iload 6, 2) := by decide +kernel
theorem dX8_holds_36 : decode cX8_holds 36 = .ok (.iconst 3, 1) := by decide +kernel
theorem dX8_holds_37 : decode cX8_holds 37 = .ok (.iand, 1) := by decide +kernel
theorem dX8_holds_38 : decode cX8_holds 38 = .ok (.tableswitch 57 0 2 #[26, 33, 46], 26) := by decide +kernel
theorem dX8_holds_64 : decode cX8_holds 64 = .ok (.lload_n 3, 1) := by decide +kernel
theorem dX8_holds_65 : decode cX8_holds 65 = .ok (.lconst 1, 1) := by decide +kernel
theorem dX8_holds_66 : decode cX8_holds 66 = .ok (.lxor, 1) := by decide +kernel
theorem dX8_holds_67 : decode cX8_holds 67 = .ok (.lstore_n 3, 1) := by decide +kernel
theorem dX8_holds_68 : decode cX8_holds 68 = .ok (.goto 48, 3) := by decide +kernel
theorem dX8_holds_71 : decode cX8_holds 71 = .ok (.lload_n 3, 1) := by decide +kernel
theorem dX8_holds_72 : decode cX8_holds 72 = .ok (.iconst 1, 1) := by decide +kernel
theorem dX8_holds_73 : decode cX8_holds 73 = .ok (.lshr, 1) := by decide +kernel
theorem dX8_holds_74 : decode cX8_holds 74 = .ok (.lload_n 3, 1) := by decide +kernel
theorem dX8_holds_75 : decode cX8_holds 75 = .ok (.ldc2_w 63, 3) := by decide +kernel
theorem dX8_holds_78 : decode cX8_holds 78 = .ok (.lor, 1) := by decide +kernel
theorem dX8_holds_79 : decode cX8_holds 79 = .ok (.land, 1) := by decide +kernel
theorem dX8_holds_80 : decode cX8_holds 80 = .ok (.lstore_n 3, 1) := by decide +kernel
theorem dX8_holds_81 : decode cX8_holds 81 = .ok (.goto 35, 3) := by decide +kernel
theorem dX8_holds_84 : decode cX8_holds 84 = .ok (.lload_n 3, 1) := by decide +kernel
theorem dX8_holds_85 : decode cX8_holds 85 = .ok (.iconst 1, 1) := by decide +kernel
theorem dX8_holds_86 : decode cX8_holds 86 = .ok (.lshr, 1) := by decide +kernel
theorem dX8_holds_87 : decode cX8_holds 87 = .ok (.lload_n 3, 1) := by decide +kernel
theorem dX8_holds_88 : decode cX8_holds 88 = .ok (.lconst 1, 1) := by decide +kernel
theorem dX8_holds_89 : decode cX8_holds 89 = .ok (.land, 1) := by decide +kernel
theorem dX8_holds_90 : decode cX8_holds 90 = .ok (.lor, 1) := by decide +kernel
theorem dX8_holds_91 : decode cX8_holds 91 = .ok (.lstore_n 3, 1) := by decide +kernel
theorem dX8_holds_92 : decode cX8_holds 92 = .ok (.goto 24, 3) := by decide +kernel
theorem dX8_holds_95 : decode cX8_holds 95 = .ok (.lload_n 3, 1) := by decide +kernel
theorem dX8_holds_96 : decode cX8_holds 96 = .ok (.iconst 1, 1) := by decide +kernel
theorem dX8_holds_97 : decode cX8_holds 97 = .ok (.lshl, 1) := by decide +kernel
theorem dX8_holds_98 : decode cX8_holds 98 = .ok (.aload_n 0, 1) := by decide +kernel
theorem dX8_holds_99 : decode cX8_holds 99 = .ok (.iload 6, 2) := by decide +kernel
theorem dX8_holds_101 : decode cX8_holds 101 = .ok (.iload_n 2, 1) := by decide +kernel
theorem dX8_holds_102 : decode cX8_holds 102 = .ok (.invokevirtual 65, 3) := by decide +kernel
theorem dX8_holds_105 : decode cX8_holds 105 = .ok (.ifCond .eq 7, 3) := by decide +kernel
theorem dX8_holds_108 : decode cX8_holds 108 = .ok (.iconst 1, 1) := by decide +kernel
theorem dX8_holds_109 : decode cX8_holds 109 = .ok (.goto 4, 3) := by decide +kernel
theorem dX8_holds_112 : decode cX8_holds 112 = .ok (.iconst 0, 1) := by decide +kernel
theorem dX8_holds_113 : decode cX8_holds 113 = .ok (.i2l, 1) := by decide +kernel
theorem dX8_holds_114 : decode cX8_holds 114 = .ok (.lor, 1) := by decide +kernel
theorem dX8_holds_115 : decode cX8_holds 115 = .ok (.lstore_n 3, 1) := by decide +kernel
theorem dX8_holds_116 : decode cX8_holds 116 = .ok (.iinc 5 1, 3) := by decide +kernel
theorem dX8_holds_119 : decode cX8_holds 119 = .ok (.goto (-114), 3) := by decide +kernel
theorem dX8_holds_122 : decode cX8_holds 122 = .ok (.lload_n 3, 1) := by decide +kernel
theorem dX8_holds_123 : decode cX8_holds 123 = .ok (.lconst 1, 1) := by decide +kernel
theorem dX8_holds_124 : decode cX8_holds 124 = .ok (.land, 1) := by decide +kernel
theorem dX8_holds_125 : decode cX8_holds 125 = .ok (.lconst 1, 1) := by decide +kernel
theorem dX8_holds_126 : decode cX8_holds 126 = .ok (.lcmp, 1) := by decide +kernel
theorem dX8_holds_127 : decode cX8_holds 127 = .ok (.ifCond .ne 7, 3) := by decide +kernel
theorem dX8_holds_130 : decode cX8_holds 130 = .ok (.iconst 1, 1) := by decide +kernel
theorem dX8_holds_131 : decode cX8_holds 131 = .ok (.goto 4, 3) := by decide +kernel
theorem dX8_holds_134 : decode cX8_holds 134 = .ok (.iconst 0, 1) := by decide +kernel
theorem dX8_holds_135 : decode cX8_holds 135 = .ok (.ireturn, 1) := by decide +kernel
theorem dX8_compares_0 : decode cX8_compares 0 = .ok (.iload_n 1, 1) := by decide +kernel
theorem dX8_compares_1 : decode cX8_compares 1 = .ok (.iconst 5, 1) := by decide +kernel
theorem dX8_compares_2 : decode cX8_compares 2 = .ok (.ishr, 1) := by decide +kernel
theorem dX8_compares_3 : decode cX8_compares 3 = .ok (.bipush 15, 2) := by decide +kernel
theorem dX8_compares_5 : decode cX8_compares 5 = .ok (.iand, 1) := by decide +kernel
theorem dX8_compares_6 : decode cX8_compares 6 = .ok (.istore_n 3, 1) := by decide +kernel
theorem dX8_compares_7 : decode cX8_compares 7 = .ok (.iconst 0, 1) := by decide +kernel
theorem dX8_compares_8 : decode cX8_compares 8 = .ok (.istore 4, 2) := by decide +kernel
theorem dX8_compares_10 : decode cX8_compares 10 = .ok (.iload_n 1, 1) := by decide +kernel
theorem dX8_compares_11 : decode cX8_compares 11 = .ok (.iconst 2, 1) := by decide +kernel
theorem dX8_compares_12 : decode cX8_compares 12 = .ok (.ishr, 1) := by decide +kernel
theorem dX8_compares_13 : decode cX8_compares 13 = .ok (.bipush 7, 2) := by decide +kernel
theorem dX8_compares_15 : decode cX8_compares 15 = .ok (.iand, 1) := by decide +kernel
theorem dX8_compares_16 : decode cX8_compares 16 = .ok (.tableswitch 119 0 3 #[32, 64, 93, 109], 32) := by decide +kernel
theorem dX8_compares_48 : decode cX8_compares 48 = .ok (.iload_n 3, 1) := by decide +kernel
theorem dX8_compares_49 : decode cX8_compares 49 = .ok (.aload_n 0, 1) := by decide +kernel
theorem dX8_compares_50 : decode cX8_compares 50 = .ok (.getfield 23, 3) := by decide +kernel
theorem dX8_compares_53 : decode cX8_compares 53 = .ok (.getfield 68, 3) := by decide +kernel
theorem dX8_compares_56 : decode cX8_compares 56 = .ok (.if_icmp .ge 18, 3) := by decide +kernel
theorem dX8_compares_59 : decode cX8_compares 59 = .ok (.aload_n 0, 1) := by decide +kernel
theorem dX8_compares_60 : decode cX8_compares 60 = .ok (.getfield 27, 3) := by decide +kernel
theorem dX8_compares_63 : decode cX8_compares 63 = .ok (.aload_n 0, 1) := by decide +kernel
theorem dX8_compares_64 : decode cX8_compares 64 = .ok (.getfield 23, 3) := by decide +kernel
theorem dX8_compares_67 : decode cX8_compares 67 = .ok (.iload_n 3, 1) := by decide +kernel
theorem dX8_compares_68 : decode cX8_compares 68 = .ok (.invokevirtual 73, 3) := by decide +kernel
theorem dX8_compares_71 : decode cX8_compares 71 = .ok (.goto 4, 3) := by decide +kernel
theorem dX8_compares_74 : decode cX8_compares 74 = .ok (.iconst 0, 1) := by decide +kernel
theorem dX8_compares_75 : decode cX8_compares 75 = .ok (.istore 4, 2) := by decide +kernel
theorem dX8_compares_77 : decode cX8_compares 77 = .ok (.goto 67, 3) := by decide +kernel
theorem dX8_compares_80 : decode cX8_compares 80 = .ok (.iload_n 3, 1) := by decide +kernel
theorem dX8_compares_81 : decode cX8_compares 81 = .ok (.aload_n 0, 1) := by decide +kernel
theorem dX8_compares_82 : decode cX8_compares 82 = .ok (.getfield 23, 3) := by decide +kernel
theorem dX8_compares_85 : decode cX8_compares 85 = .ok (.getfield 68, 3) := by decide +kernel
theorem dX8_compares_88 : decode cX8_compares 88 = .ok (.if_icmp .ge 15, 3) := by decide +kernel
theorem dX8_compares_91 : decode cX8_compares 91 = .ok (.aload_n 0, 1) := by decide +kernel
theorem dX8_compares_92 : decode cX8_compares 92 = .ok (.getfield 23, 3) := by decide +kernel
theorem dX8_compares_95 : decode cX8_compares 95 = .ok (.getfield 79, 3) := by decide +kernel
theorem dX8_compares_98 : decode cX8_compares 98 = .ok (.iload_n 3, 1) := by decide +kernel
theorem dX8_compares_99 : decode cX8_compares 99 = .ok (.iaload, 1) := by decide +kernel
theorem dX8_compares_100 : decode cX8_compares 100 = .ok (.goto 4, 3) := by decide +kernel
theorem dX8_compares_103 : decode cX8_compares 103 = .ok (.iconst 0, 1) := by decide +kernel
theorem dX8_compares_104 : decode cX8_compares 104 = .ok (.istore 4, 2) := by decide +kernel
theorem dX8_compares_106 : decode cX8_compares 106 = .ok (.goto 38, 3) := by decide +kernel
theorem dX8_compares_109 : decode cX8_compares 109 = .ok (.aload_n 0, 1) := by decide +kernel
theorem dX8_compares_110 : decode cX8_compares 110 = .ok (.getfield 23, 3) := by decide +kernel
theorem dX8_compares_113 : decode cX8_compares 113 = .ok (.getfield 82, 3) := by decide +kernel
theorem dX8_compares_116 : decode cX8_compares 116 = .ok (.iload_n 3, 1) := by decide +kernel
theorem dX8_compares_117 : decode cX8_compares 117 = .ok (.ishr, 1) := by decide +kernel
theorem dX8_compares_118 : decode cX8_compares 118 = .ok (.iconst 1, 1) := by decide +kernel
theorem dX8_compares_119 : decode cX8_compares 119 = .ok (.iand, 1) := by decide +kernel
theorem dX8_compares_120 : decode cX8_compares 120 = .ok (.istore 4, 2) := by decide +kernel
theorem dX8_compares_122 : decode cX8_compares 122 = .ok (.goto 22, 3) := by decide +kernel
theorem dX8_compares_125 : decode cX8_compares 125 = .ok (.iload_n 2, 1) := by decide +kernel
theorem dX8_compares_126 : decode cX8_compares 126 = .ok (.iload_n 3, 1) := by decide +kernel
theorem dX8_compares_127 : decode cX8_compares 127 = .ok (.ishr, 1) := by decide +kernel
theorem dX8_compares_128 : decode cX8_compares 128 = .ok (.iconst 1, 1) := by decide +kernel
theorem dX8_compares_129 : decode cX8_compares 129 = .ok (.iand, 1) := by decide +kernel
theorem dX8_compares_130 : decode cX8_compares 130 = .ok (.istore 4, 2) := by decide +kernel
theorem dX8_compares_132 : decode cX8_compares 132 = .ok (.goto 12, 3) := by decide +kernel
theorem dX8_compares_135 : decode cX8_compares 135 = .ok (.aload_n 0, 1) := by decide +kernel
theorem dX8_compares_136 : decode cX8_compares 136 = .ok (.getfield 27, 3) := by decide +kernel
theorem dX8_compares_139 : decode cX8_compares 139 = .ok (.getfield 85, 3) := by decide +kernel
theorem dX8_compares_142 : decode cX8_compares 142 = .ok (.istore 4, 2) := by decide +kernel
theorem dX8_compares_144 : decode cX8_compares 144 = .ok (.iload_n 1, 1) := by decide +kernel
theorem dX8_compares_145 : decode cX8_compares 145 = .ok (.bipush 11, 2) := by decide +kernel
theorem dX8_compares_147 : decode cX8_compares 147 = .ok (.ishr, 1) := by decide +kernel
theorem dX8_compares_148 : decode cX8_compares 148 = .ok (.istore 5, 2) := by decide +kernel
theorem dX8_compares_150 : decode cX8_compares 150 = .ok (.iload_n 1, 1) := by decide +kernel
theorem dX8_compares_151 : decode cX8_compares 151 = .ok (.bipush 9, 2) := by decide +kernel
theorem dX8_compares_153 : decode cX8_compares 153 = .ok (.ishr, 1) := by decide +kernel
theorem dX8_compares_154 : decode cX8_compares 154 = .ok (.iconst 3, 1) := by decide +kernel
theorem dX8_compares_155 : decode cX8_compares 155 = .ok (.iand, 1) := by decide +kernel
theorem dX8_compares_156 : decode cX8_compares 156 = .ok (.lookupswitch 54 #[(0, 28), (1, 41)], 28) := by decide +kernel
theorem dX8_compares_184 : decode cX8_compares 184 = .ok (.iload 4, 2) := by decide +kernel
theorem dX8_compares_186 : decode cX8_compares 186 = .ok (.iload 5, 2) := by decide +kernel
theorem dX8_compares_188 : decode cX8_compares 188 = .ok (.if_icmp .ge 7, 3) := by decide +kernel
theorem dX8_compares_191 : decode cX8_compares 191 = .ok (.iconst 1, 1) := by decide +kernel
theorem dX8_compares_192 : decode cX8_compares 192 = .ok (.goto 4, 3) := by decide +kernel
theorem dX8_compares_195 : decode cX8_compares 195 = .ok (.iconst 0, 1) := by decide +kernel
theorem dX8_compares_196 : decode cX8_compares 196 = .ok (.ireturn, 1) := by decide +kernel
theorem dX8_compares_197 : decode cX8_compares 197 = .ok (.iload 4, 2) := by decide +kernel
theorem dX8_compares_199 : decode cX8_compares 199 = .ok (.iload 5, 2) := by decide +kernel
theorem dX8_compares_201 : decode cX8_compares 201 = .ok (.if_icmp .ne 7, 3) := by decide +kernel
theorem dX8_compares_204 : decode cX8_compares 204 = .ok (.iconst 1, 1) := by decide +kernel
theorem dX8_compares_205 : decode cX8_compares 205 = .ok (.goto 4, 3) := by decide +kernel
theorem dX8_compares_208 : decode cX8_compares 208 = .ok (.iconst 0, 1) := by decide +kernel
theorem dX8_compares_209 : decode cX8_compares 209 = .ok (.ireturn, 1) := by decide +kernel
theorem dX8_compares_210 : decode cX8_compares 210 = .ok (.iload 4, 2) := by decide +kernel
theorem dX8_compares_212 : decode cX8_compares 212 = .ok (.iload 5, 2) := by decide +kernel
theorem dX8_compares_214 : decode cX8_compares 214 = .ok (.if_icmp .le 7, 3) := by decide +kernel
theorem dX8_compares_217 : decode cX8_compares 217 = .ok (.iconst 1, 1) := by decide +kernel
theorem dX8_compares_218 : decode cX8_compares 218 = .ok (.goto 4, 3) := by decide +kernel
theorem dX8_compares_221 : decode cX8_compares 221 = .ok (.iconst 0, 1) := by decide +kernel
theorem dX8_compares_222 : decode cX8_compares 222 = .ok (.ireturn, 1) := by decide +kernel
theorem dX9_init_0 : decode cX9_init 0 = .ok (.aload_n 0, 1) := by decide +kernel
theorem dX9_init_1 : decode cX9_init 1 = .ok (.invokespecial 3, 3) := by decide +kernel
theorem dX9_init_4 : decode cX9_init 4 = .ok (.aload_n 0, 1) := by decide +kernel
theorem dX9_init_5 : decode cX9_init 5 = .ok (.bipush 8, 2) := by decide +kernel
theorem dX9_init_7 : decode cX9_init 7 = .ok (.newarray .int, 2) := by decide +kernel
theorem dX9_init_9 : decode cX9_init 9 = .ok (.putfield 11, 3) := by decide +kernel
theorem dX9_init_12 : decode cX9_init 12 = .ok (.aload_n 0, 1) := by decide +kernel
theorem dX9_init_13 : decode cX9_init 13 = .ok (.bipush 20, 2) := by decide +kernel
theorem dX9_init_15 : decode cX9_init 15 = .ok (.newarray .int, 2) := by decide +kernel
theorem dX9_init_17 : decode cX9_init 17 = .ok (.putfield 15, 3) := by decide +kernel
theorem dX9_init_20 : decode cX9_init 20 = .ok (.aload_n 0, 1) := by decide +kernel
theorem dX9_init_21 : decode cX9_init 21 = .ok (.bipush 20, 2) := by decide +kernel
theorem dX9_init_23 : decode cX9_init 23 = .ok (.newarray .int, 2) := by decide +kernel
theorem dX9_init_25 : decode cX9_init 25 = .ok (.putfield 18, 3) := by decide +kernel
theorem dX9_init_28 : decode cX9_init 28 = .ok (.aload_n 0, 1) := by decide +kernel
theorem dX9_init_29 : decode cX9_init 29 = .ok (.bipush 20, 2) := by decide +kernel
theorem dX9_init_31 : decode cX9_init 31 = .ok (.newarray .int, 2) := by decide +kernel
theorem dX9_init_33 : decode cX9_init 33 = .ok (.putfield 21, 3) := by decide +kernel
theorem dX9_init_36 : decode cX9_init 36 = .ok (.aload_n 0, 1) := by decide +kernel
theorem dX9_init_37 : decode cX9_init 37 = .ok (.bipush 20, 2) := by decide +kernel
theorem dX9_init_39 : decode cX9_init 39 = .ok (.newarray .boolean, 2) := by decide +kernel
theorem dX9_init_41 : decode cX9_init 41 = .ok (.putfield 24, 3) := by decide +kernel
theorem dX9_init_44 : decode cX9_init 44 = .ok (.aload_n 0, 1) := by decide +kernel
theorem dX9_init_45 : decode cX9_init 45 = .ok (.bipush 20, 2) := by decide +kernel
theorem dX9_init_47 : decode cX9_init 47 = .ok (.newarray .int, 2) := by decide +kernel
theorem dX9_init_49 : decode cX9_init 49 = .ok (.putfield 28, 3) := by decide +kernel
theorem dX9_init_52 : decode cX9_init 52 = .ok (.aload_n 0, 1) := by decide +kernel
theorem dX9_init_53 : decode cX9_init 53 = .ok (.bipush 8, 2) := by decide +kernel
theorem dX9_init_55 : decode cX9_init 55 = .ok (.newarray .int, 2) := by decide +kernel
theorem dX9_init_57 : decode cX9_init 57 = .ok (.putfield 31, 3) := by decide +kernel
theorem dX9_init_60 : decode cX9_init 60 = .ok (.aload_n 0, 1) := by decide +kernel
theorem dX9_init_61 : decode cX9_init 61 = .ok (.getfield 11, 3) := by decide +kernel
theorem dX9_init_64 : decode cX9_init 64 = .ok (.iconst 3, 1) := by decide +kernel
theorem dX9_init_65 : decode cX9_init 65 = .ok (.invokestatic 34, 3) := by decide +kernel
theorem dX9_init_68 : decode cX9_init 68 = .ok (.return_, 1) := by decide +kernel
theorem dX9_addSpray_0 : decode cX9_addSpray 0 = .ok (.aload_n 0, 1) := by decide +kernel
theorem dX9_addSpray_1 : decode cX9_addSpray 1 = .ok (.getfield 40, 3) := by decide +kernel
theorem dX9_addSpray_4 : decode cX9_addSpray 4 = .ok (.bipush 20, 2) := by decide +kernel
theorem dX9_addSpray_6 : decode cX9_addSpray 6 = .ok (.if_icmp .ge 33, 3) := by decide +kernel
theorem dX9_addSpray_9 : decode cX9_addSpray 9 = .ok (.aload_n 0, 1) := by decide +kernel
theorem dX9_addSpray_10 : decode cX9_addSpray 10 = .ok (.getfield 15, 3) := by decide +kernel
theorem dX9_addSpray_13 : decode cX9_addSpray 13 = .ok (.aload_n 0, 1) := by decide +kernel
theorem dX9_addSpray_14 : decode cX9_addSpray 14 = .ok (.getfield 40, 3) := by decide +kernel
theorem dX9_addSpray_17 : decode cX9_addSpray 17 = .ok (.iload_n 1, 1) := by decide +kernel
theorem dX9_addSpray_18 : decode cX9_addSpray 18 = .ok (.iastore, 1) := by decide +kernel
theorem dX9_addSpray_19 : decode cX9_addSpray 19 = .ok (.aload_n 0, 1) := by decide +kernel
theorem dX9_addSpray_20 : decode cX9_addSpray 20 = .ok (.getfield 18, 3) := by decide +kernel
theorem dX9_addSpray_23 : decode cX9_addSpray 23 = .ok (.aload_n 0, 1) := by decide +kernel
theorem dX9_addSpray_24 : decode cX9_addSpray 24 = .ok (.getfield 40, 3) := by decide +kernel
theorem dX9_addSpray_27 : decode cX9_addSpray 27 = .ok (.iload_n 2, 1) := by decide +kernel
theorem dX9_addSpray_28 : decode cX9_addSpray 28 = .ok (.iastore, 1) := by decide +kernel
theorem dX9_addSpray_29 : decode cX9_addSpray 29 = .ok (.aload_n 0, 1) := by decide +kernel
theorem dX9_addSpray_30 : decode cX9_addSpray 30 = .ok (.dup, 1) := by decide +kernel
theorem dX9_addSpray_31 : decode cX9_addSpray 31 = .ok (.getfield 40, 3) := by decide +kernel
theorem dX9_addSpray_34 : decode cX9_addSpray 34 = .ok (.iconst 1, 1) := by decide +kernel
theorem dX9_addSpray_35 : decode cX9_addSpray 35 = .ok (.iadd, 1) := by decide +kernel
theorem dX9_addSpray_36 : decode cX9_addSpray 36 = .ok (.putfield 40, 3) := by decide +kernel
theorem dX9_addSpray_39 : decode cX9_addSpray 39 = .ok (.aload_n 0, 1) := by decide +kernel
theorem dX9_addSpray_40 : decode cX9_addSpray 40 = .ok (.getfield 40, 3) := by decide +kernel
theorem dX9_addSpray_43 : decode cX9_addSpray 43 = .ok (.ireturn, 1) := by decide +kernel
theorem dX9_addSight_0 : decode cX9_addSight 0 = .ok (.aload_n 0, 1) := by decide +kernel
theorem dX9_addSight_1 : decode cX9_addSight 1 = .ok (.getfield 44, 3) := by decide +kernel
theorem dX9_addSight_4 : decode cX9_addSight 4 = .ok (.bipush 20, 2) := by decide +kernel
theorem dX9_addSight_6 : decode cX9_addSight 6 = .ok (.if_icmp .ge 33, 3) := by decide +kernel
theorem dX9_addSight_9 : decode cX9_addSight 9 = .ok (.aload_n 0, 1) := by decide +kernel
theorem dX9_addSight_10 : decode cX9_addSight 10 = .ok (.getfield 21, 3) := by decide +kernel
theorem dX9_addSight_13 : decode cX9_addSight 13 = .ok (.aload_n 0, 1) := by decide +kernel
theorem dX9_addSight_14 : decode cX9_addSight 14 = .ok (.getfield 44, 3) := by decide +kernel
theorem dX9_addSight_17 : decode cX9_addSight 17 = .ok (.iload_n 1, 1) := by decide +kernel
theorem dX9_addSight_18 : decode cX9_addSight 18 = .ok (.iastore, 1) := by decide +kernel
theorem dX9_addSight_19 : decode cX9_addSight 19 = .ok (.aload_n 0, 1) := by decide +kernel
theorem dX9_addSight_20 : decode cX9_addSight 20 = .ok (.getfield 24, 3) := by decide +kernel
theorem dX9_addSight_23 : decode cX9_addSight 23 = .ok (.aload_n 0, 1) := by decide +kernel
theorem dX9_addSight_24 : decode cX9_addSight 24 = .ok (.getfield 44, 3) := by decide +kernel
theorem dX9_addSight_27 : decode cX9_addSight 27 = .ok (.iload_n 2, 1) := by decide +kernel
theorem dX9_addSight_28 : decode cX9_addSight 28 = .ok (.bastore, 1) := by decide +kernel
theorem dX9_addSight_29 : decode cX9_addSight 29 = .ok (.aload_n 0, 1) := by decide +kernel
theorem dX9_addSight_30 : decode cX9_addSight 30 = .ok (.dup, 1) := by decide +kernel
theorem dX9_addSight_31 : decode cX9_addSight 31 = .ok (.getfield 44, 3) := by decide +kernel
theorem dX9_addSight_34 : decode cX9_addSight 34 = .ok (.iconst 1, 1) := by decide +kernel
theorem dX9_addSight_35 : decode cX9_addSight 35 = .ok (.iadd, 1) := by decide +kernel
theorem dX9_addSight_36 : decode cX9_addSight 36 = .ok (.putfield 44, 3) := by decide +kernel
theorem dX9_addSight_39 : decode cX9_addSight 39 = .ok (.aload_n 0, 1) := by decide +kernel
theorem dX9_addSight_40 : decode cX9_addSight 40 = .ok (.getfield 44, 3) := by decide +kernel
theorem dX9_addSight_43 : decode cX9_addSight 43 = .ok (.ireturn, 1) := by decide +kernel
theorem dX9_found_0 : decode cX9_found 0 = .ok (.aload_n 0, 1) := by decide +kernel
theorem dX9_found_1 : decode cX9_found 1 = .ok (.invokevirtual 47, 3) := by decide +kernel
theorem dX9_found_4 : decode cX9_found 4 = .ok (.istore_n 2, 1) := by decide +kernel
theorem dX9_found_5 : decode cX9_found 5 = .ok (.iload_n 1, 1) := by decide +kernel
theorem dX9_found_6 : decode cX9_found 6 = .ok (.ifCond .ne 5, 3) := by decide +kernel
theorem dX9_found_9 : decode cX9_found 9 = .ok (.iload_n 2, 1) := by decide +kernel
theorem dX9_found_10 : decode cX9_found 10 = .ok (.ireturn, 1) := by decide +kernel
theorem dX9_found_11 : decode cX9_found 11 = .ok (.iload_n 1, 1) := by decide +kernel
theorem dX9_found_12 : decode cX9_found 12 = .ok (.iconst 3, 1) := by decide +kernel
theorem dX9_found_13 : decode cX9_found 13 = .ok (.if_icmp .ne 9, 3) := by decide +kernel
theorem dX9_found_16 : decode cX9_found 16 = .ok (.aload_n 0, 1) := by decide +kernel
theorem dX9_found_17 : decode cX9_found 17 = .ok (.iload_n 2, 1) := by decide +kernel
theorem dX9_found_18 : decode cX9_found 18 = .ok (.invokevirtual 51, 3) := by decide +kernel
theorem dX9_found_21 : decode cX9_found 21 = .ok (.ireturn, 1) := by decide +kernel
theorem dX9_found_22 : decode cX9_found 22 = .ok (.iconst 0, 1) := by decide +kernel
theorem dX9_found_23 : decode cX9_found 23 = .ok (.istore_n 3, 1) := by decide +kernel
theorem dX9_found_24 : decode cX9_found 24 = .ok (.iconst 0, 1) := by decide +kernel
theorem dX9_found_25 : decode cX9_found 25 = .ok (.istore 4, 2) := by decide +kernel
theorem dX9_found_27 : decode cX9_found 27 = .ok (.iload 4, 2) := by decide +kernel
theorem dX9_found_29 : decode cX9_found 29 = .ok (.bipush 8, 2) := by decide +kernel
theorem dX9_found_31 : decode cX9_found 31 = .ok (.if_icmp .ge 56, 3) := by decide +kernel
theorem dX9_found_34 : decode cX9_found 34 = .ok (.aload_n 0, 1) := by decide +kernel
theorem dX9_found_35 : decode cX9_found 35 = .ok (.getfield 31, 3) := by decide +kernel
theorem dX9_found_38 : decode cX9_found 38 = .ok (.iload 4, 2) := by decide +kernel
theorem dX9_found_40 : decode cX9_found 40 = .ok (.iaload, 1) := by decide +kernel
theorem dX9_found_41 : decode cX9_found 41 = .ok (.iload_n 1, 1) := by decide +kernel
theorem dX9_found_42 : decode cX9_found 42 = .ok (.iconst 1, 1) := by decide +kernel
theorem dX9_found_43 : decode cX9_found 43 = .ok (.if_icmp .ne 7, 3) := by decide +kernel
theorem dX9_found_46 : decode cX9_found 46 = .ok (.iload_n 2, 1) := by decide +kernel
theorem dX9_found_47 : decode cX9_found 47 = .ok (.goto 4, 3) := by decide +kernel
theorem dX9_found_50 : decode cX9_found 50 = .ok (.iconst 0, 1) := by decide +kernel
theorem dX9_found_51 : decode cX9_found 51 = .ok (.if_icmp .ne 7, 3) := by decide +kernel
theorem dX9_found_54 : decode cX9_found 54 = .ok (.iconst 1, 1) := by decide +kernel
theorem dX9_found_55 : decode cX9_found 55 = .ok (.goto 4, 3) := by decide +kernel
theorem dX9_found_58 : decode cX9_found 58 = .ok (.iconst 0, 1) := by decide +kernel
theorem dX9_found_59 : decode cX9_found 59 = .ok (.istore 5, 2) := by decide +kernel
theorem dX9_found_61 : decode cX9_found 61 = .ok (.iload_n 3, 1) := by decide +kernel
theorem dX9_found_62 : decode cX9_found 62 = .ok (.iload 5, 2) := by decide +kernel
theorem dX9_found_64 : decode cX9_found 64 = .ok (.ifCond .eq 14, 3) := by decide +kernel
theorem dX9_found_67 : decode cX9_found 67 = .ok (.iload_n 2, 1) := by decide +kernel
theorem dX9_found_68 : decode cX9_found 68 = .ok (.ifCond .le 10, 3) := by decide +kernel
theorem dX9_found_71 : decode cX9_found 71 = .ok (.iconst 1, 1) := by decide +kernel
theorem dX9_found_72 : decode cX9_found 72 = .ok (.iload 4, 2) := by decide +kernel
theorem dX9_found_74 : decode cX9_found 74 = .ok (.ishl, 1) := by decide +kernel
theorem dX9_found_75 : decode cX9_found 75 = .ok (.goto 4, 3) := by decide +kernel
theorem dX9_found_78 : decode cX9_found 78 = .ok (.iconst 0, 1) := by decide +kernel
theorem dX9_found_79 : decode cX9_found 79 = .ok (.ior, 1) := by decide +kernel
theorem dX9_found_80 : decode cX9_found 80 = .ok (.istore_n 3, 1) := by decide +kernel
theorem dX9_found_81 : decode cX9_found 81 = .ok (.iinc 4 1, 3) := by decide +kernel
theorem dX9_found_84 : decode cX9_found 84 = .ok (.goto (-57), 3) := by decide +kernel
theorem dX9_found_87 : decode cX9_found 87 = .ok (.iload_n 3, 1) := by decide +kernel
theorem dX9_found_88 : decode cX9_found 88 = .ok (.ireturn, 1) := by decide +kernel
theorem dX9_countFitting_0 : decode cX9_countFitting 0 = .ok (.aload_n 0, 1) := by decide +kernel
theorem dX9_countFitting_1 : decode cX9_countFitting 1 = .ok (.invokevirtual 55, 3) := by decide +kernel
theorem dX9_countFitting_4 : decode cX9_countFitting 4 = .ok (.aload_n 0, 1) := by decide +kernel
theorem dX9_countFitting_5 : decode cX9_countFitting 5 = .ok (.getfield 31, 3) := by decide +kernel
theorem dX9_countFitting_8 : decode cX9_countFitting 8 = .ok (.iconst 0, 1) := by decide +kernel
theorem dX9_countFitting_9 : decode cX9_countFitting 9 = .ok (.invokestatic 34, 3) := by decide +kernel
theorem dX9_countFitting_12 : decode cX9_countFitting 12 = .ok (.iconst 0, 1) := by decide +kernel
theorem dX9_countFitting_13 : decode cX9_countFitting 13 = .ok (.istore_n 1, 1) := by decide +kernel
theorem dX9_countFitting_14 : decode cX9_countFitting 14 = .ok (.iconst 0, 1) := by decide +kernel
theorem dX9_countFitting_15 : decode cX9_countFitting 15 = .ok (.istore_n 2, 1) := by decide +kernel
theorem dX9_countFitting_16 : decode cX9_countFitting 16 = .ok (.iload_n 2, 1) := by decide +kernel
theorem dX9_countFitting_17 : decode cX9_countFitting 17 = .ok (.sipush 256, 3) := by decide +kernel
theorem dX9_countFitting_20 : decode cX9_countFitting 20 = .ok (.if_icmp .ge 56, 3) := by decide +kernel
theorem dX9_countFitting_23 : decode cX9_countFitting 23 = .ok (.iload_n 2, 1) := by decide +kernel
theorem dX9_countFitting_24 : decode cX9_countFitting 24 = .ok (.invokestatic 58, 3) := by decide +kernel
theorem dX9_countFitting_27 : decode cX9_countFitting 27 = .ok (.iconst 2, 1) := by decide +kernel
theorem dX9_countFitting_28 : decode cX9_countFitting 28 = .ok (.if_icmp .gt 42, 3) := by decide +kernel
theorem dX9_countFitting_31 : decode cX9_countFitting 31 = .ok (.aload_n 0, 1) := by decide +kernel
theorem dX9_countFitting_32 : decode cX9_countFitting 32 = .ok (.iload_n 2, 1) := by decide +kernel
theorem dX9_countFitting_33 : decode cX9_countFitting 33 = .ok (.invokevirtual 63, 3) := by decide +kernel
theorem dX9_countFitting_36 : decode cX9_countFitting 36 = .ok (.ifCond .eq 34, 3) := by decide +kernel
theorem dX9_countFitting_39 : decode cX9_countFitting 39 = .ok (.iinc 1 1, 3) := by decide +kernel
theorem dX9_countFitting_42 : decode cX9_countFitting 42 = .ok (.iconst 0, 1) := by decide +kernel
theorem dX9_countFitting_43 : decode cX9_countFitting 43 = .ok (.istore_n 3, 1) := by decide +kernel
theorem dX9_countFitting_44 : decode cX9_countFitting 44 = .ok (.iload_n 3, 1) := by decide +kernel
theorem dX9_countFitting_45 : decode cX9_countFitting 45 = .ok (.bipush 8, 2) := by decide +kernel
theorem dX9_countFitting_47 : decode cX9_countFitting 47 = .ok (.if_icmp .ge 23, 3) := by decide +kernel
theorem dX9_countFitting_50 : decode cX9_countFitting 50 = .ok (.aload_n 0, 1) := by decide +kernel
theorem dX9_countFitting_51 : decode cX9_countFitting 51 = .ok (.getfield 31, 3) := by decide +kernel
theorem dX9_countFitting_54 : decode cX9_countFitting 54 = .ok (.iload_n 3, 1) := by decide +kernel
theorem dX9_countFitting_55 : decode cX9_countFitting 55 = .ok (.dup2, 1) := by decide +kernel
theorem dX9_countFitting_56 : decode cX9_countFitting 56 = .ok (.iaload, 1) := by decide +kernel
theorem dX9_countFitting_57 : decode cX9_countFitting 57 = .ok (.iload_n 2, 1) := by decide +kernel
theorem dX9_countFitting_58 : decode cX9_countFitting 58 = .ok (.iload_n 3, 1) := by decide +kernel
theorem dX9_countFitting_59 : decode cX9_countFitting 59 = .ok (.ishr, 1) := by decide +kernel
theorem dX9_countFitting_60 : decode cX9_countFitting 60 = .ok (.iconst 1, 1) := by decide +kernel
theorem dX9_countFitting_61 : decode cX9_countFitting 61 = .ok (.iand, 1) := by decide +kernel
theorem dX9_countFitting_62 : decode cX9_countFitting 62 = .ok (.iadd, 1) := by decide +kernel
theorem dX9_countFitting_63 : decode cX9_countFitting 63 = .ok (.iastore, 1) := by decide +kernel
theorem dX9_countFitting_64 : decode cX9_countFitting 64 = .ok (.iinc 3 1, 3) := by decide +kernel
theorem dX9_countFitting_67 : decode cX9_countFitting 67 = .ok (.goto (-23), 3) := by decide +kernel
theorem dX9_countFitting_70 : decode cX9_countFitting 70 = .ok (.iinc 2 1, 3) := by decide +kernel
theorem dX9_countFitting_73 : decode cX9_countFitting 73 = .ok (.goto (-57), 3) := by decide +kernel
theorem dX9_countFitting_76 : decode cX9_countFitting 76 = .ok (.iload_n 1, 1) := by decide +kernel
theorem dX9_countFitting_77 : decode cX9_countFitting 77 = .ok (.ireturn, 1) := by decide +kernel
theorem dX9_findShown_0 : decode cX9_findShown 0 = .ok (.iconst 0, 1) := by decide +kernel
theorem dX9_findShown_1 : decode cX9_findShown 1 = .ok (.istore_n 1, 1) := by decide +kernel
theorem dX9_findShown_2 : decode cX9_findShown 2 = .ok (.iload_n 1, 1) := by decide +kernel
theorem dX9_findShown_3 : decode cX9_findShown 3 = .ok (.aload_n 0, 1) := by decide +kernel
theorem dX9_findShown_4 : decode cX9_findShown 4 = .ok (.getfield 44, 3) := by decide +kernel
theorem dX9_findShown_7 : decode cX9_findShown 7 = .ok (.if_icmp .ge 89, 3) := by decide +kernel
theorem dX9_findShown_10 : decode cX9_findShown 10 = .ok (.aload_n 0, 1) := by decide +kernel
theorem dX9_findShown_11 : decode cX9_findShown 11 = .ok (.getfield 28, 3) := by decide +kernel
theorem dX9_findShown_14 : decode cX9_findShown 14 = .ok (.iload_n 1, 1) := by decide +kernel
theorem dX9_findShown_15 : decode cX9_findShown 15 = .ok (.iconst 0, 1) := by decide +kernel
theorem dX9_findShown_16 : decode cX9_findShown 16 = .ok (.iastore, 1) := by decide +kernel
theorem dX9_findShown_17 : decode cX9_findShown 17 = .ok (.iconst 0, 1) := by decide +kernel
theorem dX9_findShown_18 : decode cX9_findShown 18 = .ok (.istore_n 2, 1) := by decide +kernel
theorem dX9_findShown_19 : decode cX9_findShown 19 = .ok (.iload_n 2, 1) := by decide +kernel
theorem dX9_findShown_20 : decode cX9_findShown 20 = .ok (.aload_n 0, 1) := by decide +kernel
theorem dX9_findShown_21 : decode cX9_findShown 21 = .ok (.getfield 40, 3) := by decide +kernel
theorem dX9_findShown_24 : decode cX9_findShown 24 = .ok (.if_icmp .ge 66, 3) := by decide +kernel
theorem dX9_findShown_27 : decode cX9_findShown 27 = .ok (.aload_n 0, 1) := by decide +kernel
theorem dX9_findShown_28 : decode cX9_findShown 28 = .ok (.getfield 15, 3) := by decide +kernel
theorem dX9_findShown_31 : decode cX9_findShown 31 = .ok (.iload_n 2, 1) := by decide +kernel
theorem dX9_findShown_32 : decode cX9_findShown 32 = .ok (.iaload, 1) := by decide +kernel
theorem dX9_findShown_33 : decode cX9_findShown 33 = .ok (.istore_n 3, 1) := by decide +kernel
theorem dX9_findShown_34 : decode cX9_findShown 34 = .ok (.aload_n 0, 1) := by decide +kernel
theorem dX9_findShown_35 : decode cX9_findShown 35 = .ok (.getfield 18, 3) := by decide +kernel
theorem dX9_findShown_38 : decode cX9_findShown 38 = .ok (.iload_n 2, 1) := by decide +kernel
theorem dX9_findShown_39 : decode cX9_findShown 39 = .ok (.iaload, 1) := by decide +kernel
theorem dX9_findShown_40 : decode cX9_findShown 40 = .ok (.aload_n 0, 1) := by decide +kernel
theorem dX9_findShown_41 : decode cX9_findShown 41 = .ok (.getfield 21, 3) := by decide +kernel
theorem dX9_findShown_44 : decode cX9_findShown 44 = .ok (.iload_n 1, 1) := by decide +kernel
theorem dX9_findShown_45 : decode cX9_findShown 45 = .ok (.iaload, 1) := by decide +kernel
theorem dX9_findShown_46 : decode cX9_findShown 46 = .ok (.aload_n 0, 1) := by decide +kernel
theorem dX9_findShown_47 : decode cX9_findShown 47 = .ok (.getfield 11, 3) := by decide +kernel
theorem dX9_findShown_50 : decode cX9_findShown 50 = .ok (.iload_n 3, 1) := by decide +kernel
theorem dX9_findShown_51 : decode cX9_findShown 51 = .ok (.iaload, 1) := by decide +kernel
theorem dX9_findShown_52 : decode cX9_findShown 52 = .ok (.isub, 1) := by decide +kernel
theorem dX9_findShown_53 : decode cX9_findShown 53 = .ok (.if_icmp .ne 7, 3) := by decide +kernel
theorem dX9_findShown_56 : decode cX9_findShown 56 = .ok (.iconst 1, 1) := by decide +kernel
theorem dX9_findShown_57 : decode cX9_findShown 57 = .ok (.goto 4, 3) := by decide +kernel
theorem dX9_findShown_60 : decode cX9_findShown 60 = .ok (.iconst 0, 1) := by decide +kernel
theorem dX9_findShown_61 : decode cX9_findShown 61 = .ok (.istore 4, 2) := by decide +kernel
theorem dX9_findShown_63 : decode cX9_findShown 63 = .ok (.aload_n 0, 1) := by decide +kernel
theorem dX9_findShown_64 : decode cX9_findShown 64 = .ok (.getfield 28, 3) := by decide +kernel
theorem dX9_findShown_67 : decode cX9_findShown 67 = .ok (.iload_n 1, 1) := by decide +kernel
theorem dX9_findShown_68 : decode cX9_findShown 68 = .ok (.dup2, 1) := by decide +kernel
theorem dX9_findShown_69 : decode cX9_findShown 69 = .ok (.iaload, 1) := by decide +kernel
theorem dX9_findShown_70 : decode cX9_findShown 70 = .ok (.iload 4, 2) := by decide +kernel
theorem dX9_findShown_72 : decode cX9_findShown 72 = .ok (.ifCond .eq 9, 3) := by decide +kernel
theorem dX9_findShown_75 : decode cX9_findShown 75 = .ok (.iconst 1, 1) := by decide +kernel
theorem dX9_findShown_76 : decode cX9_findShown 76 = .ok (.iload_n 3, 1) := by decide +kernel
theorem dX9_findShown_77 : decode cX9_findShown 77 = .ok (.ishl, 1) := by decide +kernel
theorem dX9_findShown_78 : decode cX9_findShown 78 = .ok (.goto 4, 3) := by decide +kernel
theorem dX9_findShown_81 : decode cX9_findShown 81 = .ok (.iconst 0, 1) := by decide +kernel
theorem dX9_findShown_82 : decode cX9_findShown 82 = .ok (.ior, 1) := by decide +kernel
theorem dX9_findShown_83 : decode cX9_findShown 83 = .ok (.iastore, 1) := by decide +kernel
theorem dX9_findShown_84 : decode cX9_findShown 84 = .ok (.iinc 2 1, 3) := by decide +kernel
theorem dX9_findShown_87 : decode cX9_findShown 87 = .ok (.goto (-68), 3) := by decide +kernel
theorem dX9_findShown_90 : decode cX9_findShown 90 = .ok (.iinc 1 1, 3) := by decide +kernel
theorem dX9_findShown_93 : decode cX9_findShown 93 = .ok (.goto (-91), 3) := by decide +kernel
theorem dX9_findShown_96 : decode cX9_findShown 96 = .ok (.return_, 1) := by decide +kernel
theorem dX9_fits_0 : decode cX9_fits 0 = .ok (.iconst 0, 1) := by decide +kernel
theorem dX9_fits_1 : decode cX9_fits 1 = .ok (.istore_n 2, 1) := by decide +kernel
theorem dX9_fits_2 : decode cX9_fits 2 = .ok (.iload_n 2, 1) := by decide +kernel
theorem dX9_fits_3 : decode cX9_fits 3 = .ok (.aload_n 0, 1) := by decide +kernel
theorem dX9_fits_4 : decode cX9_fits 4 = .ok (.getfield 44, 3) := by decide +kernel
theorem dX9_fits_7 : decode cX9_fits 7 = .ok (.if_icmp .ge 36, 3) := by decide +kernel
theorem dX9_fits_10 : decode cX9_fits 10 = .ok (.iload_n 1, 1) := by decide +kernel
theorem dX9_fits_11 : decode cX9_fits 11 = .ok (.aload_n 0, 1) := by decide +kernel
theorem dX9_fits_12 : decode cX9_fits 12 = .ok (.getfield 28, 3) := by decide +kernel
theorem dX9_fits_15 : decode cX9_fits 15 = .ok (.iload_n 2, 1) := by decide +kernel
theorem dX9_fits_16 : decode cX9_fits 16 = .ok (.iaload, 1) := by decide +kernel
theorem dX9_fits_17 : decode cX9_fits 17 = .ok (.iand, 1) := by decide +kernel
theorem dX9_fits_18 : decode cX9_fits 18 = .ok (.ifCond .eq 7, 3) := by decide +kernel
theorem dX9_fits_21 : decode cX9_fits 21 = .ok (.iconst 1, 1) := by decide +kernel
theorem dX9_fits_22 : decode cX9_fits 22 = .ok (.goto 4, 3) := by decide +kernel
theorem dX9_fits_25 : decode cX9_fits 25 = .ok (.iconst 0, 1) := by decide +kernel
theorem dX9_fits_26 : decode cX9_fits 26 = .ok (.aload_n 0, 1) := by decide +kernel
theorem dX9_fits_27 : decode cX9_fits 27 = .ok (.getfield 24, 3) := by decide +kernel
theorem dX9_fits_30 : decode cX9_fits 30 = .ok (.iload_n 2, 1) := by decide +kernel
theorem dX9_fits_31 : decode cX9_fits 31 = .ok (.baload, 1) := by decide +kernel
theorem dX9_fits_32 : decode cX9_fits 32 = .ok (.if_icmp .eq 5, 3) := by decide +kernel
theorem dX9_fits_35 : decode cX9_fits 35 = .ok (.iconst 0, 1) := by decide +kernel
theorem dX9_fits_36 : decode cX9_fits 36 = .ok (.ireturn, 1) := by decide +kernel
theorem dX9_fits_37 : decode cX9_fits 37 = .ok (.iinc 2 1, 3) := by decide +kernel
theorem dX9_fits_40 : decode cX9_fits 40 = .ok (.goto (-38), 3) := by decide +kernel
theorem dX9_fits_43 : decode cX9_fits 43 = .ok (.iconst 1, 1) := by decide +kernel
theorem dX9_fits_44 : decode cX9_fits 44 = .ok (.ireturn, 1) := by decide +kernel
theorem dX9_nextPlace_0 : decode cX9_nextPlace 0 = .ok (.bipush (-9), 2) := by decide +kernel
theorem dX9_nextPlace_2 : decode cX9_nextPlace 2 = .ok (.istore_n 2, 1) := by decide +kernel
theorem dX9_nextPlace_3 : decode cX9_nextPlace 3 = .ok (.iload_n 1, 1) := by decide +kernel
theorem dX9_nextPlace_4 : decode cX9_nextPlace 4 = .ok (.istore_n 3, 1) := by decide +kernel
theorem dX9_nextPlace_5 : decode cX9_nextPlace 5 = .ok (.iconst 0, 1) := by decide +kernel
theorem dX9_nextPlace_6 : decode cX9_nextPlace 6 = .ok (.istore 4, 2) := by decide +kernel
theorem dX9_nextPlace_8 : decode cX9_nextPlace 8 = .ok (.iload 4, 2) := by decide +kernel
theorem dX9_nextPlace_10 : decode cX9_nextPlace 10 = .ok (.bipush 8, 2) := by decide +kernel
theorem dX9_nextPlace_12 : decode cX9_nextPlace 12 = .ok (.if_icmp .ge 42, 3) := by decide +kernel
theorem dX9_nextPlace_15 : decode cX9_nextPlace 15 = .ok (.aload_n 0, 1) := by decide +kernel
theorem dX9_nextPlace_16 : decode cX9_nextPlace 16 = .ok (.getfield 31, 3) := by decide +kernel
theorem dX9_nextPlace_19 : decode cX9_nextPlace 19 = .ok (.iload 4, 2) := by decide +kernel
theorem dX9_nextPlace_21 : decode cX9_nextPlace 21 = .ok (.iaload, 1) := by decide +kernel
theorem dX9_nextPlace_22 : decode cX9_nextPlace 22 = .ok (.iload_n 1, 1) := by decide +kernel
theorem dX9_nextPlace_23 : decode cX9_nextPlace 23 = .ok (.aload_n 0, 1) := by decide +kernel
theorem dX9_nextPlace_24 : decode cX9_nextPlace 24 = .ok (.getfield 31, 3) := by decide +kernel
theorem dX9_nextPlace_27 : decode cX9_nextPlace 27 = .ok (.iload 4, 2) := by decide +kernel
theorem dX9_nextPlace_29 : decode cX9_nextPlace 29 = .ok (.iaload, 1) := by decide +kernel
theorem dX9_nextPlace_30 : decode cX9_nextPlace 30 = .ok (.isub, 1) := by decide +kernel
theorem dX9_nextPlace_31 : decode cX9_nextPlace 31 = .ok (.invokestatic 67, 3) := by decide +kernel
theorem dX9_nextPlace_34 : decode cX9_nextPlace 34 = .ok (.istore 5, 2) := by decide +kernel
theorem dX9_nextPlace_36 : decode cX9_nextPlace 36 = .ok (.iload 5, 2) := by decide +kernel
theorem dX9_nextPlace_38 : decode cX9_nextPlace 38 = .ok (.iload_n 3, 1) := by decide +kernel
theorem dX9_nextPlace_39 : decode cX9_nextPlace 39 = .ok (.if_icmp .ge 9, 3) := by decide +kernel
theorem dX9_nextPlace_42 : decode cX9_nextPlace 42 = .ok (.iload 4, 2) := by decide +kernel
theorem dX9_nextPlace_44 : decode cX9_nextPlace 44 = .ok (.istore_n 2, 1) := by decide +kernel
theorem dX9_nextPlace_45 : decode cX9_nextPlace 45 = .ok (.iload 5, 2) := by decide +kernel
theorem dX9_nextPlace_47 : decode cX9_nextPlace 47 = .ok (.istore_n 3, 1) := by decide +kernel
theorem dX9_nextPlace_48 : decode cX9_nextPlace 48 = .ok (.iinc 4 1, 3) := by decide +kernel
theorem dX9_nextPlace_51 : decode cX9_nextPlace 51 = .ok (.goto (-43), 3) := by decide +kernel
theorem dX9_nextPlace_54 : decode cX9_nextPlace 54 = .ok (.iload_n 2, 1) := by decide +kernel
theorem dX9_nextPlace_55 : decode cX9_nextPlace 55 = .ok (.ireturn, 1) := by decide +kernel
theorem dX10_init_0 : decode cX10_init 0 = .ok (.aload_n 0, 1) := by decide +kernel
theorem dX10_init_1 : decode cX10_init 1 = .ok (.invokespecial 3, 3) := by decide +kernel
theorem dX10_init_4 : decode cX10_init 4 = .ok (.aload_n 0, 1) := by decide +kernel
theorem dX10_init_5 : decode cX10_init 5 = .ok (.sipush 256, 3) := by decide +kernel
theorem dX10_init_8 : decode cX10_init 8 = .ok (.newarray .boolean, 2) := by decide +kernel
theorem dX10_init_10 : decode cX10_init 10 = .ok (.putfield 9, 3) := by decide +kernel
theorem dX10_init_13 : decode cX10_init 13 = .ok (.aload_n 0, 1) := by decide +kernel
theorem dX10_init_14 : decode cX10_init 14 = .ok (.aload_n 1, 1) := by decide +kernel
theorem dX10_init_15 : decode cX10_init 15 = .ok (.putfield 15, 3) := by decide +kernel
theorem dX10_init_18 : decode cX10_init 18 = .ok (.return_, 1) := by decide +kernel
theorem dX10_nth_0 : decode cX10_nth 0 = .ok (.iload_n 1, 1) := by decide +kernel
theorem dX10_nth_1 : decode cX10_nth 1 = .ok (.ifCond .le 25, 3) := by decide +kernel
theorem dX10_nth_4 : decode cX10_nth 4 = .ok (.iload_n 1, 1) := by decide +kernel
theorem dX10_nth_5 : decode cX10_nth 5 = .ok (.aload_n 0, 1) := by decide +kernel
theorem dX10_nth_6 : decode cX10_nth 6 = .ok (.getfield 9, 3) := by decide +kernel
theorem dX10_nth_9 : decode cX10_nth 9 = .ok (.arraylength, 1) := by decide +kernel
theorem dX10_nth_10 : decode cX10_nth 10 = .ok (.if_icmp .ge 16, 3) := by decide +kernel
theorem dX10_nth_13 : decode cX10_nth 13 = .ok (.iload_n 1, 1) := by decide +kernel
theorem dX10_nth_14 : decode cX10_nth 14 = .ok (.iload 4, 2) := by decide +kernel
theorem dX10_nth_16 : decode cX10_nth 16 = .ok (.iand, 1) := by decide +kernel
theorem dX10_nth_17 : decode cX10_nth 17 = .ok (.ifCond .ne 9, 3) := by decide +kernel
theorem dX10_nth_20 : decode cX10_nth 20 = .ok (.iload_n 2, 1) := by decide +kernel
theorem dX10_nth_21 : decode cX10_nth 21 = .ok (.bipush 8, 2) := by decide +kernel
theorem dX10_nth_23 : decode cX10_nth 23 = .ok (.if_icmp .lt 6, 3) := by decide +kernel
theorem dX10_nth_26 : decode cX10_nth 26 = .ok (.bipush (-9), 2) := by decide +kernel
theorem dX10_nth_28 : decode cX10_nth 28 = .ok (.ireturn, 1) := by decide +kernel
theorem dX10_nth_29 : decode cX10_nth 29 = .ok (.aload_n 0, 1) := by decide +kernel
theorem dX10_nth_30 : decode cX10_nth 30 = .ok (.getfield 9, 3) := by decide +kernel
theorem dX10_nth_33 : decode cX10_nth 33 = .ok (.iload_n 1, 1) := by decide +kernel
theorem dX10_nth_34 : decode cX10_nth 34 = .ok (.iconst 1, 1) := by decide +kernel
theorem dX10_nth_35 : decode cX10_nth 35 = .ok (.bastore, 1) := by decide +kernel
theorem dX10_nth_36 : decode cX10_nth 36 = .ok (.iload_n 1, 1) := by decide +kernel
theorem dX10_nth_37 : decode cX10_nth 37 = .ok (.iconst 1, 1) := by decide +kernel
theorem dX10_nth_38 : decode cX10_nth 38 = .ok (.isub, 1) := by decide +kernel
theorem dX10_nth_39 : decode cX10_nth 39 = .ok (.istore 5, 2) := by decide +kernel
theorem dX10_nth_41 : decode cX10_nth 41 = .ok (.iload 5, 2) := by decide +kernel
theorem dX10_nth_43 : decode cX10_nth 43 = .ok (.ifCond .le 43, 3) := by decide +kernel
theorem dX10_nth_46 : decode cX10_nth 46 = .ok (.iload 5, 2) := by decide +kernel
theorem dX10_nth_48 : decode cX10_nth 48 = .ok (.iload_n 1, 1) := by decide +kernel
theorem dX10_nth_49 : decode cX10_nth 49 = .ok (.iconst (-1), 1) := by decide +kernel
theorem dX10_nth_50 : decode cX10_nth 50 = .ok (.ixor, 1) := by decide +kernel
theorem dX10_nth_51 : decode cX10_nth 51 = .ok (.iand, 1) := by decide +kernel
theorem dX10_nth_52 : decode cX10_nth 52 = .ok (.ifCond .ne 28, 3) := by decide +kernel
theorem dX10_nth_55 : decode cX10_nth 55 = .ok (.aload_n 0, 1) := by decide +kernel
theorem dX10_nth_56 : decode cX10_nth 56 = .ok (.getfield 9, 3) := by decide +kernel
theorem dX10_nth_59 : decode cX10_nth 59 = .ok (.iload 5, 2) := by decide +kernel
theorem dX10_nth_61 : decode cX10_nth 61 = .ok (.aload_n 0, 1) := by decide +kernel
theorem dX10_nth_62 : decode cX10_nth 62 = .ok (.iload_n 1, 1) := by decide +kernel
theorem dX10_nth_63 : decode cX10_nth 63 = .ok (.iload 5, 2) := by decide +kernel
theorem dX10_nth_65 : decode cX10_nth 65 = .ok (.iload_n 3, 1) := by decide +kernel
theorem dX10_nth_66 : decode cX10_nth 66 = .ok (.invokevirtual 19, 3) := by decide +kernel
theorem dX10_nth_69 : decode cX10_nth 69 = .ok (.bipush (-9), 2) := by decide +kernel
theorem dX10_nth_71 : decode cX10_nth 71 = .ok (.if_icmp .eq 7, 3) := by decide +kernel
theorem dX10_nth_74 : decode cX10_nth 74 = .ok (.iconst 1, 1) := by decide +kernel
theorem dX10_nth_75 : decode cX10_nth 75 = .ok (.goto 4, 3) := by decide +kernel
theorem dX10_nth_78 : decode cX10_nth 78 = .ok (.iconst 0, 1) := by decide +kernel
theorem dX10_nth_79 : decode cX10_nth 79 = .ok (.bastore, 1) := by decide +kernel
theorem dX10_nth_80 : decode cX10_nth 80 = .ok (.iinc 5 (-1), 3) := by decide +kernel
theorem dX10_nth_83 : decode cX10_nth 83 = .ok (.goto (-42), 3) := by decide +kernel
theorem dX10_nth_86 : decode cX10_nth 86 = .ok (.iconst 0, 1) := by decide +kernel
theorem dX10_nth_87 : decode cX10_nth 87 = .ok (.istore 5, 2) := by decide +kernel
theorem dX10_nth_89 : decode cX10_nth 89 = .ok (.aload_n 0, 1) := by decide +kernel
theorem dX10_nth_90 : decode cX10_nth 90 = .ok (.iload_n 1, 1) := by decide +kernel
theorem dX10_nth_91 : decode cX10_nth 91 = .ok (.iload 5, 2) := by decide +kernel
theorem dX10_nth_93 : decode cX10_nth 93 = .ok (.iload_n 3, 1) := by decide +kernel
theorem dX10_nth_94 : decode cX10_nth 94 = .ok (.invokevirtual 19, 3) := by decide +kernel
theorem dX10_nth_97 : decode cX10_nth 97 = .ok (.istore 6, 2) := by decide +kernel
theorem dX10_nth_99 : decode cX10_nth 99 = .ok (.iconst 0, 1) := by decide +kernel
theorem dX10_nth_100 : decode cX10_nth 100 = .ok (.istore 7, 2) := by decide +kernel
theorem dX10_nth_102 : decode cX10_nth 102 = .ok (.iload 7, 2) := by decide +kernel
theorem dX10_nth_104 : decode cX10_nth 104 = .ok (.iload_n 2, 1) := by decide +kernel
theorem dX10_nth_105 : decode cX10_nth 105 = .ok (.if_icmp .ge 35, 3) := by decide +kernel
theorem dX10_nth_108 : decode cX10_nth 108 = .ok (.iload 6, 2) := by decide +kernel
theorem dX10_nth_110 : decode cX10_nth 110 = .ok (.bipush (-9), 2) := by decide +kernel
theorem dX10_nth_112 : decode cX10_nth 112 = .ok (.if_icmp .eq 28, 3) := by decide +kernel
theorem dX10_nth_115 : decode cX10_nth 115 = .ok (.iload 5, 2) := by decide +kernel
theorem dX10_nth_117 : decode cX10_nth 117 = .ok (.iconst 1, 1) := by decide +kernel
theorem dX10_nth_118 : decode cX10_nth 118 = .ok (.iload 6, 2) := by decide +kernel
theorem dX10_nth_120 : decode cX10_nth 120 = .ok (.ishl, 1) := by decide +kernel
theorem dX10_nth_121 : decode cX10_nth 121 = .ok (.ior, 1) := by decide +kernel
theorem dX10_nth_122 : decode cX10_nth 122 = .ok (.istore 5, 2) := by decide +kernel
theorem dX10_nth_124 : decode cX10_nth 124 = .ok (.aload_n 0, 1) := by decide +kernel
theorem dX10_nth_125 : decode cX10_nth 125 = .ok (.iload_n 1, 1) := by decide +kernel
theorem dX10_nth_126 : decode cX10_nth 126 = .ok (.iload 5, 2) := by decide +kernel
theorem dX10_nth_128 : decode cX10_nth 128 = .ok (.iload_n 3, 1) := by decide +kernel
theorem dX10_nth_129 : decode cX10_nth 129 = .ok (.invokevirtual 19, 3) := by decide +kernel
theorem dX10_nth_132 : decode cX10_nth 132 = .ok (.istore 6, 2) := by decide +kernel
theorem dX10_nth_134 : decode cX10_nth 134 = .ok (.iinc 7 1, 3) := by decide +kernel
theorem dX10_nth_137 : decode cX10_nth 137 = .ok (.goto (-35), 3) := by decide +kernel
theorem dX10_nth_140 : decode cX10_nth 140 = .ok (.iload 6, 2) := by decide +kernel
theorem dX10_nth_142 : decode cX10_nth 142 = .ok (.ireturn, 1) := by decide +kernel
theorem dX10_next_0 : decode cX10_next 0 = .ok (.iconst 0, 1) := by decide +kernel
theorem dX10_next_1 : decode cX10_next 1 = .ok (.istore 4, 2) := by decide +kernel
theorem dX10_next_3 : decode cX10_next 3 = .ok (.iload 4, 2) := by decide +kernel
theorem dX10_next_5 : decode cX10_next 5 = .ok (.bipush 8, 2) := by decide +kernel
theorem dX10_next_7 : decode cX10_next 7 = .ok (.if_icmp .ge 86, 3) := by decide +kernel
theorem dX10_next_10 : decode cX10_next 10 = .ok (.iconst 1, 1) := by decide +kernel
theorem dX10_next_11 : decode cX10_next 11 = .ok (.iload 4, 2) := by decide +kernel
theorem dX10_next_13 : decode cX10_next 13 = .ok (.ishl, 1) := by decide +kernel
theorem dX10_next_14 : decode cX10_next 14 = .ok (.istore 5, 2) := by decide +kernel
theorem dX10_next_16 : decode cX10_next 16 = .ok (.iload_n 1, 1) := by decide +kernel
theorem dX10_next_17 : decode cX10_next 17 = .ok (.iload_n 2, 1) := by decide +kernel
theorem dX10_next_18 : decode cX10_next 18 = .ok (.iconst (-1), 1) := by decide +kernel
theorem dX10_next_19 : decode cX10_next 19 = .ok (.ixor, 1) := by decide +kernel
theorem dX10_next_20 : decode cX10_next 20 = .ok (.iand, 1) := by decide +kernel
theorem dX10_next_21 : decode cX10_next 21 = .ok (.iload 5, 2) := by decide +kernel
theorem dX10_next_23 : decode cX10_next 23 = .ok (.iand, 1) := by decide +kernel
theorem dX10_next_24 : decode cX10_next 24 = .ok (.ifCond .eq 7, 3) := by decide +kernel
theorem dX10_next_27 : decode cX10_next 27 = .ok (.iconst 1, 1) := by decide +kernel
theorem dX10_next_28 : decode cX10_next 28 = .ok (.goto 4, 3) := by decide +kernel
theorem dX10_next_31 : decode cX10_next 31 = .ok (.iconst 0, 1) := by decide +kernel
theorem dX10_next_32 : decode cX10_next 32 = .ok (.istore 6, 2) := by decide +kernel
theorem dX10_next_34 : decode cX10_next 34 = .ok (.iload 6, 2) := by decide +kernel
theorem dX10_next_36 : decode cX10_next 36 = .ok (.ifCond .eq 51, 3) := by decide +kernel
theorem dX10_next_39 : decode cX10_next 39 = .ok (.iload_n 2, 1) := by decide +kernel
theorem dX10_next_40 : decode cX10_next 40 = .ok (.iload 5, 2) := by decide +kernel
theorem dX10_next_42 : decode cX10_next 42 = .ok (.ior, 1) := by decide +kernel
theorem dX10_next_43 : decode cX10_next 43 = .ok (.aload_n 0, 1) := by decide +kernel
theorem dX10_next_44 : decode cX10_next 44 = .ok (.getfield 9, 3) := by decide +kernel
theorem dX10_next_47 : decode cX10_next 47 = .ok (.arraylength, 1) := by decide +kernel
theorem dX10_next_48 : decode cX10_next 48 = .ok (.invokestatic 23, 3) := by decide +kernel
theorem dX10_next_51 : decode cX10_next 51 = .ok (.ifCond .eq 36, 3) := by decide +kernel
theorem dX10_next_54 : decode cX10_next 54 = .ok (.aload_n 0, 1) := by decide +kernel
theorem dX10_next_55 : decode cX10_next 55 = .ok (.getfield 9, 3) := by decide +kernel
theorem dX10_next_58 : decode cX10_next 58 = .ok (.iload_n 2, 1) := by decide +kernel
theorem dX10_next_59 : decode cX10_next 59 = .ok (.iload 5, 2) := by decide +kernel
theorem dX10_next_61 : decode cX10_next 61 = .ok (.ior, 1) := by decide +kernel
theorem dX10_next_62 : decode cX10_next 62 = .ok (.baload, 1) := by decide +kernel
theorem dX10_next_63 : decode cX10_next 63 = .ok (.ifCond .eq 24, 3) := by decide +kernel
theorem dX10_next_66 : decode cX10_next 66 = .ok (.aload_n 0, 1) := by decide +kernel
theorem dX10_next_67 : decode cX10_next 67 = .ok (.getfield 15, 3) := by decide +kernel
theorem dX10_next_70 : decode cX10_next 70 = .ok (.iload 4, 2) := by decide +kernel
theorem dX10_next_72 : decode cX10_next 72 = .ok (.iconst 1, 1) := by decide +kernel
theorem dX10_next_73 : decode cX10_next 73 = .ok (.iload_n 3, 1) := by decide +kernel
theorem dX10_next_74 : decode cX10_next 74 = .ok (.iload_n 2, 1) := by decide +kernel
theorem dX10_next_75 : decode cX10_next 75 = .ok (.ior, 1) := by decide +kernel
theorem dX10_next_76 : decode cX10_next 76 = .ok (.invokevirtual 27, 3) := by decide +kernel
theorem dX10_next_79 : decode cX10_next 79 = .ok (.bipush (-9), 2) := by decide +kernel
theorem dX10_next_81 : decode cX10_next 81 = .ok (.if_icmp .ne 6, 3) := by decide +kernel
theorem dX10_next_84 : decode cX10_next 84 = .ok (.iload 4, 2) := by decide +kernel
theorem dX10_next_86 : decode cX10_next 86 = .ok (.ireturn, 1) := by decide +kernel
theorem dX10_next_87 : decode cX10_next 87 = .ok (.iinc 4 1, 3) := by decide +kernel
theorem dX10_next_90 : decode cX10_next 90 = .ok (.goto (-87), 3) := by decide +kernel
theorem dX10_next_93 : decode cX10_next 93 = .ok (.bipush (-9), 2) := by decide +kernel
theorem dX10_next_95 : decode cX10_next 95 = .ok (.ireturn, 1) := by decide +kernel
theorem dX11_init_0 : decode cX11_init 0 = .ok (.aload_n 0, 1) := by decide +kernel
theorem dX11_init_1 : decode cX11_init 1 = .ok (.invokespecial 1, 3) := by decide +kernel
theorem dX11_init_4 : decode cX11_init 4 = .ok (.aload_n 0, 1) := by decide +kernel
theorem dX11_init_5 : decode cX11_init 5 = .ok (.new 7, 3) := by decide +kernel
theorem dX11_init_8 : decode cX11_init 8 = .ok (.dup, 1) := by decide +kernel
theorem dX11_init_9 : decode cX11_init 9 = .ok (.invokespecial 9, 3) := by decide +kernel
theorem dX11_init_12 : decode cX11_init 12 = .ok (.putfield 10, 3) := by decide +kernel
theorem dX11_init_15 : decode cX11_init 15 = .ok (.aload_n 0, 1) := by decide +kernel
theorem dX11_init_16 : decode cX11_init 16 = .ok (.new 16, 3) := by decide +kernel
theorem dX11_init_19 : decode cX11_init 19 = .ok (.dup, 1) := by decide +kernel
theorem dX11_init_20 : decode cX11_init 20 = .ok (.invokespecial 18, 3) := by decide +kernel
theorem dX11_init_23 : decode cX11_init 23 = .ok (.putfield 19, 3) := by decide +kernel
theorem dX11_init_26 : decode cX11_init 26 = .ok (.aload_n 0, 1) := by decide +kernel
theorem dX11_init_27 : decode cX11_init 27 = .ok (.new 16, 3) := by decide +kernel
theorem dX11_init_30 : decode cX11_init 30 = .ok (.dup, 1) := by decide +kernel
theorem dX11_init_31 : decode cX11_init 31 = .ok (.invokespecial 18, 3) := by decide +kernel
theorem dX11_init_34 : decode cX11_init 34 = .ok (.putfield 23, 3) := by decide +kernel
theorem dX11_init_37 : decode cX11_init 37 = .ok (.aload_n 0, 1) := by decide +kernel
theorem dX11_init_38 : decode cX11_init 38 = .ok (.new 26, 3) := by decide +kernel
theorem dX11_init_41 : decode cX11_init 41 = .ok (.dup, 1) := by decide +kernel
theorem dX11_init_42 : decode cX11_init 42 = .ok (.invokespecial 28, 3) := by decide +kernel
theorem dX11_init_45 : decode cX11_init 45 = .ok (.putfield 29, 3) := by decide +kernel
theorem dX11_init_48 : decode cX11_init 48 = .ok (.aload_n 0, 1) := by decide +kernel
theorem dX11_init_49 : decode cX11_init 49 = .ok (.new 33, 3) := by decide +kernel
theorem dX11_init_52 : decode cX11_init 52 = .ok (.dup, 1) := by decide +kernel
theorem dX11_init_53 : decode cX11_init 53 = .ok (.invokespecial 35, 3) := by decide +kernel
theorem dX11_init_56 : decode cX11_init 56 = .ok (.putfield 36, 3) := by decide +kernel
theorem dX11_init_59 : decode cX11_init 59 = .ok (.aload_n 0, 1) := by decide +kernel
theorem dX11_init_60 : decode cX11_init 60 = .ok (.new 40, 3) := by decide +kernel
theorem dX11_init_63 : decode cX11_init 63 = .ok (.dup, 1) := by decide +kernel
theorem dX11_init_64 : decode cX11_init 64 = .ok (.aload_n 0, 1) := by decide +kernel
theorem dX11_init_65 : decode cX11_init 65 = .ok (.getfield 10, 3) := by decide +kernel
theorem dX11_init_68 : decode cX11_init 68 = .ok (.aload_n 0, 1) := by decide +kernel
theorem dX11_init_69 : decode cX11_init 69 = .ok (.getfield 19, 3) := by decide +kernel
theorem dX11_init_72 : decode cX11_init 72 = .ok (.invokespecial 42, 3) := by decide +kernel
theorem dX11_init_75 : decode cX11_init 75 = .ok (.putfield 45, 3) := by decide +kernel
theorem dX11_init_78 : decode cX11_init 78 = .ok (.aload_n 0, 1) := by decide +kernel
theorem dX11_init_79 : decode cX11_init 79 = .ok (.new 49, 3) := by decide +kernel
theorem dX11_init_82 : decode cX11_init 82 = .ok (.dup, 1) := by decide +kernel
theorem dX11_init_83 : decode cX11_init 83 = .ok (.aload_n 0, 1) := by decide +kernel
theorem dX11_init_84 : decode cX11_init 84 = .ok (.getfield 45, 3) := by decide +kernel
theorem dX11_init_87 : decode cX11_init 87 = .ok (.invokespecial 51, 3) := by decide +kernel
theorem dX11_init_90 : decode cX11_init 90 = .ok (.putfield 54, 3) := by decide +kernel
theorem dX11_init_93 : decode cX11_init 93 = .ok (.aload_n 0, 1) := by decide +kernel
theorem dX11_init_94 : decode cX11_init 94 = .ok (.new 58, 3) := by decide +kernel
theorem dX11_init_97 : decode cX11_init 97 = .ok (.dup, 1) := by decide +kernel
theorem dX11_init_98 : decode cX11_init 98 = .ok (.aload_n 0, 1) := by decide +kernel
theorem dX11_init_99 : decode cX11_init 99 = .ok (.getfield 10, 3) := by decide +kernel
theorem dX11_init_102 : decode cX11_init 102 = .ok (.invokespecial 60, 3) := by decide +kernel
theorem dX11_init_105 : decode cX11_init 105 = .ok (.putfield 63, 3) := by decide +kernel
theorem dX11_init_108 : decode cX11_init 108 = .ok (.aload_n 0, 1) := by decide +kernel
theorem dX11_init_109 : decode cX11_init 109 = .ok (.new 67, 3) := by decide +kernel
theorem dX11_init_112 : decode cX11_init 112 = .ok (.dup, 1) := by decide +kernel
theorem dX11_init_113 : decode cX11_init 113 = .ok (.invokespecial 69, 3) := by decide +kernel
theorem dX11_init_116 : decode cX11_init 116 = .ok (.putfield 70, 3) := by decide +kernel
theorem dX11_init_119 : decode cX11_init 119 = .ok (.aload_n 0, 1) := by decide +kernel
theorem dX11_init_120 : decode cX11_init 120 = .ok (.new 74, 3) := by decide +kernel
theorem dX11_init_123 : decode cX11_init 123 = .ok (.dup, 1) := by decide +kernel
theorem dX11_init_124 : decode cX11_init 124 = .ok (.invokespecial 76, 3) := by decide +kernel
theorem dX11_init_127 : decode cX11_init 127 = .ok (.putfield 77, 3) := by decide +kernel
theorem dX11_init_130 : decode cX11_init 130 = .ok (.aload_n 0, 1) := by decide +kernel
theorem dX11_init_131 : decode cX11_init 131 = .ok (.new 81, 3) := by decide +kernel
theorem dX11_init_134 : decode cX11_init 134 = .ok (.dup, 1) := by decide +kernel
theorem dX11_init_135 : decode cX11_init 135 = .ok (.invokespecial 83, 3) := by decide +kernel
theorem dX11_init_138 : decode cX11_init 138 = .ok (.putfield 84, 3) := by decide +kernel
theorem dX11_init_141 : decode cX11_init 141 = .ok (.aload_n 0, 1) := by decide +kernel
theorem dX11_init_142 : decode cX11_init 142 = .ok (.new 88, 3) := by decide +kernel
theorem dX11_init_145 : decode cX11_init 145 = .ok (.dup, 1) := by decide +kernel
theorem dX11_init_146 : decode cX11_init 146 = .ok (.invokespecial 90, 3) := by decide +kernel
theorem dX11_init_149 : decode cX11_init 149 = .ok (.putfield 91, 3) := by decide +kernel
theorem dX11_init_152 : decode cX11_init 152 = .ok (.aload_n 0, 1) := by decide +kernel
theorem dX11_init_153 : decode cX11_init 153 = .ok (.bipush 8, 2) := by decide +kernel
theorem dX11_init_155 : decode cX11_init 155 = .ok (.newarray .int, 2) := by decide +kernel
theorem dX11_init_157 : decode cX11_init 157 = .ok (.putfield 95, 3) := by decide +kernel
theorem dX11_init_160 : decode cX11_init 160 = .ok (.return_, 1) := by decide +kernel
theorem dX11_room_0 : decode cX11_room 0 = .ok (.aload_n 0, 1) := by decide +kernel
theorem dX11_room_1 : decode cX11_room 1 = .ok (.iload_n 2, 1) := by decide +kernel
theorem dX11_room_2 : decode cX11_room 2 = .ok (.iconst 4, 1) := by decide +kernel
theorem dX11_room_3 : decode cX11_room 3 = .ok (.invokestatic 99, 3) := by decide +kernel
theorem dX11_room_6 : decode cX11_room 6 = .ok (.ifCond .ne 7, 3) := by decide +kernel
theorem dX11_room_9 : decode cX11_room 9 = .ok (.iconst 1, 1) := by decide +kernel
theorem dX11_room_10 : decode cX11_room 10 = .ok (.goto 4, 3) := by decide +kernel
theorem dX11_room_13 : decode cX11_room 13 = .ok (.iconst 0, 1) := by decide +kernel
theorem dX11_room_14 : decode cX11_room 14 = .ok (.iconst 0, 1) := by decide +kernel
theorem dX11_room_15 : decode cX11_room 15 = .ok (.iload_n 1, 1) := by decide +kernel
theorem dX11_room_16 : decode cX11_room 16 = .ok (.iconst 1, 1) := by decide +kernel
theorem dX11_room_17 : decode cX11_room 17 = .ok (.if_icmp .ge 7, 3) := by decide +kernel
theorem dX11_room_20 : decode cX11_room 20 = .ok (.iconst 1, 1) := by decide +kernel
theorem dX11_room_21 : decode cX11_room 21 = .ok (.goto 4, 3) := by decide +kernel
theorem dX11_room_24 : decode cX11_room 24 = .ok (.iconst 0, 1) := by decide +kernel
theorem dX11_room_25 : decode cX11_room 25 = .ok (.iload_n 1, 1) := by decide +kernel
theorem dX11_room_26 : decode cX11_room 26 = .ok (.bipush 99, 2) := by decide +kernel
theorem dX11_room_28 : decode cX11_room 28 = .ok (.if_icmp .gt 14, 3) := by decide +kernel
theorem dX11_room_31 : decode cX11_room 31 = .ok (.aload_n 0, 1) := by decide +kernel
theorem dX11_room_32 : decode cX11_room 32 = .ok (.getfield 10, 3) := by decide +kernel
theorem dX11_room_35 : decode cX11_room 35 = .ok (.getfield 103, 3) := by decide +kernel
theorem dX11_room_38 : decode cX11_room 38 = .ok (.iconst 5, 1) := by decide +kernel
theorem dX11_room_39 : decode cX11_room 39 = .ok (.if_icmp .lt 7, 3) := by decide +kernel
theorem dX11_room_42 : decode cX11_room 42 = .ok (.iconst 1, 1) := by decide +kernel
theorem dX11_room_43 : decode cX11_room 43 = .ok (.goto 4, 3) := by decide +kernel
theorem dX11_room_46 : decode cX11_room 46 = .ok (.iconst 0, 1) := by decide +kernel
theorem dX11_room_47 : decode cX11_room 47 = .ok (.invokevirtual 107, 3) := by decide +kernel
theorem dX11_room_50 : decode cX11_room 50 = .ok (.istore_n 3, 1) := by decide +kernel
theorem dX11_room_51 : decode cX11_room 51 = .ok (.iload_n 3, 1) := by decide +kernel
theorem dX11_room_52 : decode cX11_room 52 = .ok (.ifCond .eq 5, 3) := by decide +kernel
theorem dX11_room_55 : decode cX11_room 55 = .ok (.iload_n 3, 1) := by decide +kernel
theorem dX11_room_56 : decode cX11_room 56 = .ok (.ireturn, 1) := by decide +kernel
theorem dX11_room_57 : decode cX11_room 57 = .ok (.aload_n 0, 1) := by decide +kernel
theorem dX11_room_58 : decode cX11_room 58 = .ok (.getfield 29, 3) := by decide +kernel
theorem dX11_room_61 : decode cX11_room 61 = .ok (.invokevirtual 111, 3) := by decide +kernel
theorem dX11_room_64 : decode cX11_room 64 = .ok (.aload_n 0, 1) := by decide +kernel
theorem dX11_room_65 : decode cX11_room 65 = .ok (.getfield 10, 3) := by decide +kernel
theorem dX11_room_68 : decode cX11_room 68 = .ok (.iload_n 1, 1) := by decide +kernel
theorem dX11_room_69 : decode cX11_room 69 = .ok (.iload_n 2, 1) := by decide +kernel
theorem dX11_room_70 : decode cX11_room 70 = .ok (.invokevirtual 114, 3) := by decide +kernel
theorem dX11_room_73 : decode cX11_room 73 = .ok (.ireturn, 1) := by decide +kernel
theorem dX11_warm_0 : decode cX11_warm 0 = .ok (.aload_n 0, 1) := by decide +kernel
theorem dX11_warm_1 : decode cX11_warm 1 = .ok (.iload_n 1, 1) := by decide +kernel
theorem dX11_warm_2 : decode cX11_warm 2 = .ok (.aload_n 0, 1) := by decide +kernel
theorem dX11_warm_3 : decode cX11_warm 3 = .ok (.getfield 10, 3) := by decide +kernel
theorem dX11_warm_6 : decode cX11_warm 6 = .ok (.getfield 103, 3) := by decide +kernel
theorem dX11_warm_9 : decode cX11_warm 9 = .ok (.invokestatic 99, 3) := by decide +kernel
theorem dX11_warm_12 : decode cX11_warm 12 = .ok (.ifCond .ne 7, 3) := by decide +kernel
theorem dX11_warm_15 : decode cX11_warm 15 = .ok (.iconst 1, 1) := by decide +kernel
theorem dX11_warm_16 : decode cX11_warm 16 = .ok (.goto 4, 3) := by decide +kernel
theorem dX11_warm_19 : decode cX11_warm 19 = .ok (.iconst 0, 1) := by decide +kernel
theorem dX11_warm_20 : decode cX11_warm 20 = .ok (.iconst 0, 1) := by decide +kernel
theorem dX11_warm_21 : decode cX11_warm 21 = .ok (.iload_n 2, 1) := by decide +kernel
theorem dX11_warm_22 : decode cX11_warm 22 = .ok (.ifCond .ge 7, 3) := by decide +kernel
theorem dX11_warm_25 : decode cX11_warm 25 = .ok (.iconst 1, 1) := by decide +kernel
theorem dX11_warm_26 : decode cX11_warm 26 = .ok (.goto 4, 3) := by decide +kernel
theorem dX11_warm_29 : decode cX11_warm 29 = .ok (.iconst 0, 1) := by decide +kernel
theorem dX11_warm_30 : decode cX11_warm 30 = .ok (.iload_n 2, 1) := by decide +kernel
theorem dX11_warm_31 : decode cX11_warm 31 = .ok (.bipush 10, 2) := by decide +kernel
theorem dX11_warm_33 : decode cX11_warm 33 = .ok (.if_icmp .lt 7, 3) := by decide +kernel
theorem dX11_warm_36 : decode cX11_warm 36 = .ok (.iconst 1, 1) := by decide +kernel
theorem dX11_warm_37 : decode cX11_warm 37 = .ok (.goto 4, 3) := by decide +kernel
theorem dX11_warm_40 : decode cX11_warm 40 = .ok (.iconst 0, 1) := by decide +kernel
theorem dX11_warm_41 : decode cX11_warm 41 = .ok (.invokevirtual 107, 3) := by decide +kernel
theorem dX11_warm_44 : decode cX11_warm 44 = .ok (.istore_n 3, 1) := by decide +kernel
theorem dX11_warm_45 : decode cX11_warm 45 = .ok (.iload_n 3, 1) := by decide +kernel
theorem dX11_warm_46 : decode cX11_warm 46 = .ok (.ifCond .eq 5, 3) := by decide +kernel
theorem dX11_warm_49 : decode cX11_warm 49 = .ok (.iload_n 3, 1) := by decide +kernel
theorem dX11_warm_50 : decode cX11_warm 50 = .ok (.ireturn, 1) := by decide +kernel
theorem dX11_warm_51 : decode cX11_warm 51 = .ok (.aload_n 0, 1) := by decide +kernel
theorem dX11_warm_52 : decode cX11_warm 52 = .ok (.getfield 29, 3) := by decide +kernel
theorem dX11_warm_55 : decode cX11_warm 55 = .ok (.invokevirtual 111, 3) := by decide +kernel
theorem dX11_warm_58 : decode cX11_warm 58 = .ok (.aload_n 0, 1) := by decide +kernel
theorem dX11_warm_59 : decode cX11_warm 59 = .ok (.getfield 10, 3) := by decide +kernel
theorem dX11_warm_62 : decode cX11_warm 62 = .ok (.getfield 118, 3) := by decide +kernel
theorem dX11_warm_65 : decode cX11_warm 65 = .ok (.iload_n 1, 1) := by decide +kernel
theorem dX11_warm_66 : decode cX11_warm 66 = .ok (.iaload, 1) := by decide +kernel
theorem dX11_warm_67 : decode cX11_warm 67 = .ok (.istore 4, 2) := by decide +kernel
theorem dX11_warm_69 : decode cX11_warm 69 = .ok (.aload_n 0, 1) := by decide +kernel
theorem dX11_warm_70 : decode cX11_warm 70 = .ok (.getfield 10, 3) := by decide +kernel
theorem dX11_warm_73 : decode cX11_warm 73 = .ok (.getfield 118, 3) := by decide +kernel
theorem dX11_warm_76 : decode cX11_warm 76 = .ok (.iload_n 1, 1) := by decide +kernel
theorem dX11_warm_77 : decode cX11_warm 77 = .ok (.iload_n 2, 1) := by decide +kernel
theorem dX11_warm_78 : decode cX11_warm 78 = .ok (.iastore, 1) := by decide +kernel
theorem dX11_warm_79 : decode cX11_warm 79 = .ok (.iload 4, 2) := by decide +kernel
theorem dX11_warm_81 : decode cX11_warm 81 = .ok (.ireturn, 1) := by decide +kernel
theorem dX11_gas_0 : decode cX11_gas 0 = .ok (.iload_n 1, 1) := by decide +kernel
theorem dX11_gas_1 : decode cX11_gas 1 = .ok (.aload_n 0, 1) := by decide +kernel
theorem dX11_gas_2 : decode cX11_gas 2 = .ok (.getfield 10, 3) := by decide +kernel
theorem dX11_gas_5 : decode cX11_gas 5 = .ok (.getfield 103, 3) := by decide +kernel
theorem dX11_gas_8 : decode cX11_gas 8 = .ok (.invokestatic 99, 3) := by decide +kernel
theorem dX11_gas_11 : decode cX11_gas 11 = .ok (.ifCond .eq 11, 3) := by decide +kernel
theorem dX11_gas_14 : decode cX11_gas 14 = .ok (.iload_n 2, 1) := by decide +kernel
theorem dX11_gas_15 : decode cX11_gas 15 = .ok (.iconst 3, 1) := by decide +kernel
theorem dX11_gas_16 : decode cX11_gas 16 = .ok (.invokestatic 99, 3) := by decide +kernel
theorem dX11_gas_19 : decode cX11_gas 19 = .ok (.ifCond .ne 7, 3) := by decide +kernel
theorem dX11_gas_22 : decode cX11_gas 22 = .ok (.iconst 1, 1) := by decide +kernel
theorem dX11_gas_23 : decode cX11_gas 23 = .ok (.goto 4, 3) := by decide +kernel
theorem dX11_gas_26 : decode cX11_gas 26 = .ok (.iconst 0, 1) := by decide +kernel
theorem dX11_gas_27 : decode cX11_gas 27 = .ok (.istore 5, 2) := by decide +kernel
theorem dX11_gas_29 : decode cX11_gas 29 = .ok (.iload 5, 2) := by decide +kernel
theorem dX11_gas_31 : decode cX11_gas 31 = .ok (.ifCond .eq 7, 3) := by decide +kernel
theorem dX11_gas_34 : decode cX11_gas 34 = .ok (.iconst 0, 1) := by decide +kernel
theorem dX11_gas_35 : decode cX11_gas 35 = .ok (.goto 14, 3) := by decide +kernel
theorem dX11_gas_38 : decode cX11_gas 38 = .ok (.aload_n 0, 1) := by decide +kernel
theorem dX11_gas_39 : decode cX11_gas 39 = .ok (.getfield 19, 3) := by decide +kernel
theorem dX11_gas_42 : decode cX11_gas 42 = .ok (.iload_n 1, 1) := by decide +kernel
theorem dX11_gas_43 : decode cX11_gas 43 = .ok (.iload_n 2, 1) := by decide +kernel
theorem dX11_gas_44 : decode cX11_gas 44 = .ok (.iload 4, 2) := by decide +kernel
theorem dX11_gas_46 : decode cX11_gas 46 = .ok (.invokevirtual 121, 3) := by decide +kernel
theorem dX11_gas_49 : decode cX11_gas 49 = .ok (.istore 6, 2) := by decide +kernel
theorem dX11_gas_51 : decode cX11_gas 51 = .ok (.aload_n 0, 1) := by decide +kernel
theorem dX11_gas_52 : decode cX11_gas 52 = .ok (.iload 5, 2) := by decide +kernel
theorem dX11_gas_54 : decode cX11_gas 54 = .ok (.iconst 0, 1) := by decide +kernel
theorem dX11_gas_55 : decode cX11_gas 55 = .ok (.iload_n 3, 1) := by decide +kernel
theorem dX11_gas_56 : decode cX11_gas 56 = .ok (.iconst 1, 1) := by decide +kernel
theorem dX11_gas_57 : decode cX11_gas 57 = .ok (.if_icmp .ge 7, 3) := by decide +kernel
theorem dX11_gas_60 : decode cX11_gas 60 = .ok (.iconst 1, 1) := by decide +kernel
theorem dX11_gas_61 : decode cX11_gas 61 = .ok (.goto 4, 3) := by decide +kernel
theorem dX11_gas_64 : decode cX11_gas 64 = .ok (.iconst 0, 1) := by decide +kernel
theorem dX11_gas_65 : decode cX11_gas 65 = .ok (.iload_n 3, 1) := by decide +kernel
theorem dX11_gas_66 : decode cX11_gas 66 = .ok (.ldc 125, 2) := by decide +kernel
theorem dX11_gas_68 : decode cX11_gas 68 = .ok (.if_icmp .gt 16, 3) := by decide +kernel
theorem dX11_gas_71 : decode cX11_gas 71 = .ok (.iload 6, 2) := by decide +kernel
theorem dX11_gas_73 : decode cX11_gas 73 = .ok (.i2l, 1) := by decide +kernel
theorem dX11_gas_74 : decode cX11_gas 74 = .ok (.iload_n 3, 1) := by decide +kernel
theorem dX11_gas_75 : decode cX11_gas 75 = .ok (.i2l, 1) := by decide +kernel
theorem dX11_gas_76 : decode cX11_gas 76 = .ok (.ladd, 1) := by decide +kernel
theorem dX11_gas_77 : decode cX11_gas 77 = .ok (.ldc2_w 126, 3) := by decide +kernel
theorem dX11_gas_80 : decode cX11_gas 80 = .ok (.lcmp, 1) := by decide +kernel
theorem dX11_gas_81 : decode cX11_gas 81 = .ok (.ifCond .le 7, 3) := by decide +kernel
theorem dX11_gas_84 : decode cX11_gas 84 = .ok (.iconst 1, 1) := by decide +kernel
theorem dX11_gas_85 : decode cX11_gas 85 = .ok (.goto 4, 3) := by decide +kernel
theorem dX11_gas_88 : decode cX11_gas 88 = .ok (.iconst 0, 1) := by decide +kernel
theorem dX11_gas_89 : decode cX11_gas 89 = .ok (.invokevirtual 107, 3) := by decide +kernel
theorem dX11_gas_92 : decode cX11_gas 92 = .ok (.istore 7, 2) := by decide +kernel
theorem dX11_gas_94 : decode cX11_gas 94 = .ok (.iload 7, 2) := by decide +kernel
theorem dX11_gas_96 : decode cX11_gas 96 = .ok (.ifCond .eq 6, 3) := by decide +kernel
theorem dX11_gas_99 : decode cX11_gas 99 = .ok (.iload 7, 2) := by decide +kernel
theorem dX11_gas_101 : decode cX11_gas 101 = .ok (.ireturn, 1) := by decide +kernel
theorem dX11_gas_102 : decode cX11_gas 102 = .ok (.aload_n 0, 1) := by decide +kernel
theorem dX11_gas_103 : decode cX11_gas 103 = .ok (.getfield 29, 3) := by decide +kernel
theorem dX11_gas_106 : decode cX11_gas 106 = .ok (.invokevirtual 111, 3) := by decide +kernel
theorem dX11_gas_109 : decode cX11_gas 109 = .ok (.aload_n 0, 1) := by decide +kernel
theorem dX11_gas_110 : decode cX11_gas 110 = .ok (.getfield 19, 3) := by decide +kernel
theorem dX11_gas_113 : decode cX11_gas 113 = .ok (.iload_n 1, 1) := by decide +kernel
theorem dX11_gas_114 : decode cX11_gas 114 = .ok (.iload_n 2, 1) := by decide +kernel
theorem dX11_gas_115 : decode cX11_gas 115 = .ok (.iload_n 3, 1) := by decide +kernel
theorem dX11_gas_116 : decode cX11_gas 116 = .ok (.iload 4, 2) := by decide +kernel
theorem dX11_gas_118 : decode cX11_gas 118 = .ok (.invokevirtual 128, 3) := by decide +kernel
theorem dX11_gas_121 : decode cX11_gas 121 = .ok (.iload 6, 2) := by decide +kernel
theorem dX11_gas_123 : decode cX11_gas 123 = .ok (.iload_n 3, 1) := by decide +kernel
theorem dX11_gas_124 : decode cX11_gas 124 = .ok (.iadd, 1) := by decide +kernel
theorem dX11_gas_125 : decode cX11_gas 125 = .ok (.ireturn, 1) := by decide +kernel
theorem dX11_gives_0 : decode cX11_gives 0 = .ok (.aload_n 0, 1) := by decide +kernel
theorem dX11_gives_1 : decode cX11_gives 1 = .ok (.iload_n 1, 1) := by decide +kernel
theorem dX11_gives_2 : decode cX11_gives 2 = .ok (.iconst 4, 1) := by decide +kernel
theorem dX11_gives_3 : decode cX11_gives 3 = .ok (.invokestatic 99, 3) := by decide +kernel
theorem dX11_gives_6 : decode cX11_gives 6 = .ok (.ifCond .eq 12, 3) := by decide +kernel
theorem dX11_gives_9 : decode cX11_gives 9 = .ok (.iload_n 2, 1) := by decide +kernel
theorem dX11_gives_10 : decode cX11_gives 10 = .ok (.bipush 10, 2) := by decide +kernel
theorem dX11_gives_12 : decode cX11_gives 12 = .ok (.invokestatic 99, 3) := by decide +kernel
theorem dX11_gives_15 : decode cX11_gives 15 = .ok (.ifCond .ne 7, 3) := by decide +kernel
theorem dX11_gives_18 : decode cX11_gives 18 = .ok (.iconst 1, 1) := by decide +kernel
theorem dX11_gives_19 : decode cX11_gives 19 = .ok (.goto 4, 3) := by decide +kernel
theorem dX11_gives_22 : decode cX11_gives 22 = .ok (.iconst 0, 1) := by decide +kernel
theorem dX11_gives_23 : decode cX11_gives 23 = .ok (.iconst 0, 1) := by decide +kernel
theorem dX11_gives_24 : decode cX11_gives 24 = .ok (.iload_n 3, 1) := by decide +kernel
theorem dX11_gives_25 : decode cX11_gives 25 = .ok (.ifCond .ge 7, 3) := by decide +kernel
theorem dX11_gives_28 : decode cX11_gives 28 = .ok (.iconst 1, 1) := by decide +kernel
theorem dX11_gives_29 : decode cX11_gives 29 = .ok (.goto 4, 3) := by decide +kernel
theorem dX11_gives_32 : decode cX11_gives 32 = .ok (.iconst 0, 1) := by decide +kernel
theorem dX11_gives_33 : decode cX11_gives 33 = .ok (.iload_n 3, 1) := by decide +kernel
theorem dX11_gives_34 : decode cX11_gives 34 = .ok (.sipush 500, 3) := by decide +kernel
theorem dX11_gives_37 : decode cX11_gives 37 = .ok (.if_icmp .le 7, 3) := by decide +kernel
theorem dX11_gives_40 : decode cX11_gives 40 = .ok (.iconst 1, 1) := by decide +kernel
theorem dX11_gives_41 : decode cX11_gives 41 = .ok (.goto 4, 3) := by decide +kernel
theorem dX11_gives_44 : decode cX11_gives 44 = .ok (.iconst 0, 1) := by decide +kernel
theorem dX11_gives_45 : decode cX11_gives 45 = .ok (.invokevirtual 107, 3) := by decide +kernel
theorem dX11_gives_48 : decode cX11_gives 48 = .ok (.istore 4, 2) := by decide +kernel
theorem dX11_gives_50 : decode cX11_gives 50 = .ok (.iload 4, 2) := by decide +kernel
theorem dX11_gives_52 : decode cX11_gives 52 = .ok (.ifCond .eq 6, 3) := by decide +kernel
theorem dX11_gives_55 : decode cX11_gives 55 = .ok (.iload 4, 2) := by decide +kernel
theorem dX11_gives_57 : decode cX11_gives 57 = .ok (.ireturn, 1) := by decide +kernel
theorem dX11_gives_58 : decode cX11_gives 58 = .ok (.aload_n 0, 1) := by decide +kernel
theorem dX11_gives_59 : decode cX11_gives 59 = .ok (.getfield 29, 3) := by decide +kernel
theorem dX11_gives_62 : decode cX11_gives 62 = .ok (.invokevirtual 111, 3) := by decide +kernel
theorem dX11_gives_65 : decode cX11_gives 65 = .ok (.iload_n 1, 1) := by decide +kernel
theorem dX11_gives_66 : decode cX11_gives 66 = .ok (.bipush 10, 2) := by decide +kernel
theorem dX11_gives_68 : decode cX11_gives 68 = .ok (.imul, 1) := by decide +kernel
theorem dX11_gives_69 : decode cX11_gives 69 = .ok (.iload_n 2, 1) := by decide +kernel
theorem dX11_gives_70 : decode cX11_gives 70 = .ok (.iadd, 1) := by decide +kernel
theorem dX11_gives_71 : decode cX11_gives 71 = .ok (.istore 5, 2) := by decide +kernel
theorem dX11_gives_73 : decode cX11_gives 73 = .ok (.aload_n 0, 1) := by decide +kernel
theorem dX11_gives_74 : decode cX11_gives 74 = .ok (.getfield 10, 3) := by decide +kernel
theorem dX11_gives_77 : decode cX11_gives 77 = .ok (.getfield 132, 3) := by decide +kernel
theorem dX11_gives_80 : decode cX11_gives 80 = .ok (.iload 5, 2) := by decide +kernel
theorem dX11_gives_82 : decode cX11_gives 82 = .ok (.iaload, 1) := by decide +kernel
theorem dX11_gives_83 : decode cX11_gives 83 = .ok (.istore 6, 2) := by decide +kernel
theorem dX11_gives_85 : decode cX11_gives 85 = .ok (.aload_n 0, 1) := by decide +kernel
theorem dX11_gives_86 : decode cX11_gives 86 = .ok (.getfield 10, 3) := by decide +kernel
theorem dX11_gives_89 : decode cX11_gives 89 = .ok (.getfield 132, 3) := by decide +kernel
theorem dX11_gives_92 : decode cX11_gives 92 = .ok (.iload 5, 2) := by decide +kernel
theorem dX11_gives_94 : decode cX11_gives 94 = .ok (.iload_n 3, 1) := by decide +kernel
theorem dX11_gives_95 : decode cX11_gives 95 = .ok (.iastore, 1) := by decide +kernel
theorem dX11_gives_96 : decode cX11_gives 96 = .ok (.iload 6, 2) := by decide +kernel
theorem dX11_gives_98 : decode cX11_gives 98 = .ok (.ireturn, 1) := by decide +kernel
theorem dX11_pipe_0 : decode cX11_pipe 0 = .ok (.iload_n 1, 1) := by decide +kernel
theorem dX11_pipe_1 : decode cX11_pipe 1 = .ok (.aload_n 0, 1) := by decide +kernel
theorem dX11_pipe_2 : decode cX11_pipe 2 = .ok (.getfield 10, 3) := by decide +kernel
theorem dX11_pipe_5 : decode cX11_pipe 5 = .ok (.getfield 103, 3) := by decide +kernel
theorem dX11_pipe_8 : decode cX11_pipe 8 = .ok (.invokestatic 99, 3) := by decide +kernel
theorem dX11_pipe_11 : decode cX11_pipe 11 = .ok (.ifCond .eq 22, 3) := by decide +kernel
theorem dX11_pipe_14 : decode cX11_pipe 14 = .ok (.iload_n 2, 1) := by decide +kernel
theorem dX11_pipe_15 : decode cX11_pipe 15 = .ok (.aload_n 0, 1) := by decide +kernel
theorem dX11_pipe_16 : decode cX11_pipe 16 = .ok (.getfield 10, 3) := by decide +kernel
theorem dX11_pipe_19 : decode cX11_pipe 19 = .ok (.getfield 103, 3) := by decide +kernel
theorem dX11_pipe_22 : decode cX11_pipe 22 = .ok (.invokestatic 99, 3) := by decide +kernel
theorem dX11_pipe_25 : decode cX11_pipe 25 = .ok (.ifCond .eq 8, 3) := by decide +kernel
theorem dX11_pipe_28 : decode cX11_pipe 28 = .ok (.iload_n 1, 1) := by decide +kernel
theorem dX11_pipe_29 : decode cX11_pipe 29 = .ok (.iload_n 2, 1) := by decide +kernel
theorem dX11_pipe_30 : decode cX11_pipe 30 = .ok (.if_icmp .ne 7, 3) := by decide +kernel
theorem dX11_pipe_33 : decode cX11_pipe 33 = .ok (.iconst 1, 1) := by decide +kernel
theorem dX11_pipe_34 : decode cX11_pipe 34 = .ok (.goto 4, 3) := by decide +kernel
theorem dX11_pipe_37 : decode cX11_pipe 37 = .ok (.iconst 0, 1) := by decide +kernel
theorem dX11_pipe_38 : decode cX11_pipe 38 = .ok (.istore 4, 2) := by decide +kernel
theorem dX11_pipe_40 : decode cX11_pipe 40 = .ok (.aload_n 0, 1) := by decide +kernel
theorem dX11_pipe_41 : decode cX11_pipe 41 = .ok (.iload 4, 2) := by decide +kernel
theorem dX11_pipe_43 : decode cX11_pipe 43 = .ok (.iconst 0, 1) := by decide +kernel
theorem dX11_pipe_44 : decode cX11_pipe 44 = .ok (.iload_n 3, 1) := by decide +kernel
theorem dX11_pipe_45 : decode cX11_pipe 45 = .ok (.iconst 1, 1) := by decide +kernel
theorem dX11_pipe_46 : decode cX11_pipe 46 = .ok (.if_icmp .ge 7, 3) := by decide +kernel
theorem dX11_pipe_49 : decode cX11_pipe 49 = .ok (.iconst 1, 1) := by decide +kernel
theorem dX11_pipe_50 : decode cX11_pipe 50 = .ok (.goto 4, 3) := by decide +kernel
theorem dX11_pipe_53 : decode cX11_pipe 53 = .ok (.iconst 0, 1) := by decide +kernel
theorem dX11_pipe_54 : decode cX11_pipe 54 = .ok (.iload_n 3, 1) := by decide +kernel
theorem dX11_pipe_55 : decode cX11_pipe 55 = .ok (.bipush 9, 2) := by decide +kernel
theorem dX11_pipe_57 : decode cX11_pipe 57 = .ok (.if_icmp .gt 15, 3) := by decide +kernel
theorem dX11_pipe_60 : decode cX11_pipe 60 = .ok (.aload_n 0, 1) := by decide +kernel
theorem dX11_pipe_61 : decode cX11_pipe 61 = .ok (.getfield 10, 3) := by decide +kernel
theorem dX11_pipe_64 : decode cX11_pipe 64 = .ok (.getfield 135, 3) := by decide +kernel
theorem dX11_pipe_67 : decode cX11_pipe 67 = .ok (.bipush 12, 2) := by decide +kernel
theorem dX11_pipe_69 : decode cX11_pipe 69 = .ok (.if_icmp .lt 7, 3) := by decide +kernel
theorem dX11_pipe_72 : decode cX11_pipe 72 = .ok (.iconst 1, 1) := by decide +kernel
theorem dX11_pipe_73 : decode cX11_pipe 73 = .ok (.goto 4, 3) := by decide +kernel
theorem dX11_pipe_76 : decode cX11_pipe 76 = .ok (.iconst 0, 1) := by decide +kernel
theorem dX11_pipe_77 : decode cX11_pipe 77 = .ok (.invokevirtual 107, 3) := by decide +kernel
theorem dX11_pipe_80 : decode cX11_pipe 80 = .ok (.istore 5, 2) := by decide +kernel
theorem dX11_pipe_82 : decode cX11_pipe 82 = .ok (.iload 5, 2) := by decide +kernel
theorem dX11_pipe_84 : decode cX11_pipe 84 = .ok (.ifCond .eq 6, 3) := by decide +kernel
theorem dX11_pipe_87 : decode cX11_pipe 87 = .ok (.iload 5, 2) := by decide +kernel
theorem dX11_pipe_89 : decode cX11_pipe 89 = .ok (.ireturn, 1) := by decide +kernel
theorem dX11_pipe_90 : decode cX11_pipe 90 = .ok (.aload_n 0, 1) := by decide +kernel
theorem dX11_pipe_91 : decode cX11_pipe 91 = .ok (.getfield 29, 3) := by decide +kernel
theorem dX11_pipe_94 : decode cX11_pipe 94 = .ok (.invokevirtual 111, 3) := by decide +kernel
theorem dX11_pipe_97 : decode cX11_pipe 97 = .ok (.aload_n 0, 1) := by decide +kernel
theorem dX11_pipe_98 : decode cX11_pipe 98 = .ok (.getfield 10, 3) := by decide +kernel
theorem dX11_pipe_101 : decode cX11_pipe 101 = .ok (.iload_n 1, 1) := by decide +kernel
theorem dX11_pipe_102 : decode cX11_pipe 102 = .ok (.iload_n 2, 1) := by decide +kernel
theorem dX11_pipe_103 : decode cX11_pipe 103 = .ok (.iload_n 3, 1) := by decide +kernel
theorem dX11_pipe_104 : decode cX11_pipe 104 = .ok (.invokevirtual 138, 3) := by decide +kernel
theorem dX11_pipe_107 : decode cX11_pipe 107 = .ok (.ireturn, 1) := by decide +kernel
theorem dX11_pump_0 : decode cX11_pump 0 = .ok (.iload_n 2, 1) := by decide +kernel
theorem dX11_pump_1 : decode cX11_pump 1 = .ok (.bipush 9, 2) := by decide +kernel
theorem dX11_pump_3 : decode cX11_pump 3 = .ok (.if_icmp .gt 35, 3) := by decide +kernel
theorem dX11_pump_6 : decode cX11_pump 6 = .ok (.iload_n 3, 1) := by decide +kernel
theorem dX11_pump_7 : decode cX11_pump 7 = .ok (.bipush 9, 2) := by decide +kernel
theorem dX11_pump_9 : decode cX11_pump 9 = .ok (.if_icmp .gt 29, 3) := by decide +kernel
theorem dX11_pump_12 : decode cX11_pump 12 = .ok (.iload 4, 2) := by decide +kernel
theorem dX11_pump_14 : decode cX11_pump 14 = .ok (.bipush 9, 2) := by decide +kernel
theorem dX11_pump_16 : decode cX11_pump 16 = .ok (.if_icmp .gt 22, 3) := by decide +kernel
theorem dX11_pump_19 : decode cX11_pump 19 = .ok (.iload 5, 2) := by decide +kernel
theorem dX11_pump_21 : decode cX11_pump 21 = .ok (.ldc 125, 2) := by decide +kernel
theorem dX11_pump_23 : decode cX11_pump 23 = .ok (.if_icmp .gt 15, 3) := by decide +kernel
theorem dX11_pump_26 : decode cX11_pump 26 = .ok (.aload_n 0, 1) := by decide +kernel
theorem dX11_pump_27 : decode cX11_pump 27 = .ok (.getfield 10, 3) := by decide +kernel
theorem dX11_pump_30 : decode cX11_pump 30 = .ok (.getfield 142, 3) := by decide +kernel
theorem dX11_pump_33 : decode cX11_pump 33 = .ok (.bipush 8, 2) := by decide +kernel
theorem dX11_pump_35 : decode cX11_pump 35 = .ok (.if_icmp .lt 7, 3) := by decide +kernel
theorem dX11_pump_38 : decode cX11_pump 38 = .ok (.iconst 1, 1) := by decide +kernel
theorem dX11_pump_39 : decode cX11_pump 39 = .ok (.goto 4, 3) := by decide +kernel
theorem dX11_pump_42 : decode cX11_pump 42 = .ok (.iconst 0, 1) := by decide +kernel
theorem dX11_pump_43 : decode cX11_pump 43 = .ok (.istore 6, 2) := by decide +kernel
theorem dX11_pump_45 : decode cX11_pump 45 = .ok (.aload_n 0, 1) := by decide +kernel
theorem dX11_pump_46 : decode cX11_pump 46 = .ok (.iload_n 1, 1) := by decide +kernel
theorem dX11_pump_47 : decode cX11_pump 47 = .ok (.aload_n 0, 1) := by decide +kernel
theorem dX11_pump_48 : decode cX11_pump 48 = .ok (.getfield 10, 3) := by decide +kernel
theorem dX11_pump_51 : decode cX11_pump 51 = .ok (.getfield 103, 3) := by decide +kernel
theorem dX11_pump_54 : decode cX11_pump 54 = .ok (.invokestatic 99, 3) := by decide +kernel
theorem dX11_pump_57 : decode cX11_pump 57 = .ok (.ifCond .ne 7, 3) := by decide +kernel
theorem dX11_pump_60 : decode cX11_pump 60 = .ok (.iconst 1, 1) := by decide +kernel
theorem dX11_pump_61 : decode cX11_pump 61 = .ok (.goto 4, 3) := by decide +kernel
theorem dX11_pump_64 : decode cX11_pump 64 = .ok (.iconst 0, 1) := by decide +kernel
theorem dX11_pump_65 : decode cX11_pump 65 = .ok (.iconst 0, 1) := by decide +kernel
theorem dX11_pump_66 : decode cX11_pump 66 = .ok (.iload_n 2, 1) := by decide +kernel
theorem dX11_pump_67 : decode cX11_pump 67 = .ok (.ifCond .lt 17, 3) := by decide +kernel
theorem dX11_pump_70 : decode cX11_pump 70 = .ok (.iload_n 3, 1) := by decide +kernel
theorem dX11_pump_71 : decode cX11_pump 71 = .ok (.ifCond .lt 13, 3) := by decide +kernel
theorem dX11_pump_74 : decode cX11_pump 74 = .ok (.iload 4, 2) := by decide +kernel
theorem dX11_pump_76 : decode cX11_pump 76 = .ok (.ifCond .lt 8, 3) := by decide +kernel
theorem dX11_pump_79 : decode cX11_pump 79 = .ok (.iload 5, 2) := by decide +kernel
theorem dX11_pump_81 : decode cX11_pump 81 = .ok (.ifCond .ge 7, 3) := by decide +kernel
theorem dX11_pump_84 : decode cX11_pump 84 = .ok (.iconst 1, 1) := by decide +kernel
theorem dX11_pump_85 : decode cX11_pump 85 = .ok (.goto 4, 3) := by decide +kernel
theorem dX11_pump_88 : decode cX11_pump 88 = .ok (.iconst 0, 1) := by decide +kernel
theorem dX11_pump_89 : decode cX11_pump 89 = .ok (.iload 6, 2) := by decide +kernel
theorem dX11_pump_91 : decode cX11_pump 91 = .ok (.invokevirtual 107, 3) := by decide +kernel
theorem dX11_pump_94 : decode cX11_pump 94 = .ok (.istore 7, 2) := by decide +kernel
theorem dX11_pump_96 : decode cX11_pump 96 = .ok (.iload 7, 2) := by decide +kernel
theorem dX11_pump_98 : decode cX11_pump 98 = .ok (.ifCond .eq 6, 3) := by decide +kernel
theorem dX11_pump_101 : decode cX11_pump 101 = .ok (.iload 7, 2) := by decide +kernel
theorem dX11_pump_103 : decode cX11_pump 103 = .ok (.ireturn, 1) := by decide +kernel
theorem dX11_pump_104 : decode cX11_pump 104 = .ok (.aload_n 0, 1) := by decide +kernel
theorem dX11_pump_105 : decode cX11_pump 105 = .ok (.getfield 29, 3) := by decide +kernel
theorem dX11_pump_108 : decode cX11_pump 108 = .ok (.invokevirtual 111, 3) := by decide +kernel
theorem dX11_pump_111 : decode cX11_pump 111 = .ok (.aload_n 0, 1) := by decide +kernel
theorem dX11_pump_112 : decode cX11_pump 112 = .ok (.getfield 10, 3) := by decide +kernel
theorem dX11_pump_115 : decode cX11_pump 115 = .ok (.iload_n 1, 1) := by decide +kernel
theorem dX11_pump_116 : decode cX11_pump 116 = .ok (.iload_n 2, 1) := by decide +kernel
theorem dX11_pump_117 : decode cX11_pump 117 = .ok (.iload_n 3, 1) := by decide +kernel
theorem dX11_pump_118 : decode cX11_pump 118 = .ok (.iload 4, 2) := by decide +kernel
theorem dX11_pump_120 : decode cX11_pump 120 = .ok (.iload 5, 2) := by decide +kernel
theorem dX11_pump_122 : decode cX11_pump 122 = .ok (.invokevirtual 145, 3) := by decide +kernel
theorem dX11_pump_125 : decode cX11_pump 125 = .ok (.ireturn, 1) := by decide +kernel
theorem dX11_leak_0 : decode cX11_leak 0 = .ok (.aload_n 0, 1) := by decide +kernel
theorem dX11_leak_1 : decode cX11_leak 1 = .ok (.iload_n 1, 1) := by decide +kernel
theorem dX11_leak_2 : decode cX11_leak 2 = .ok (.aload_n 0, 1) := by decide +kernel
theorem dX11_leak_3 : decode cX11_leak 3 = .ok (.getfield 10, 3) := by decide +kernel
theorem dX11_leak_6 : decode cX11_leak 6 = .ok (.getfield 103, 3) := by decide +kernel
theorem dX11_leak_9 : decode cX11_leak 9 = .ok (.invokestatic 99, 3) := by decide +kernel
theorem dX11_leak_12 : decode cX11_leak 12 = .ok (.ifCond .eq 11, 3) := by decide +kernel
theorem dX11_leak_15 : decode cX11_leak 15 = .ok (.iload_n 2, 1) := by decide +kernel
theorem dX11_leak_16 : decode cX11_leak 16 = .ok (.iconst 3, 1) := by decide +kernel
theorem dX11_leak_17 : decode cX11_leak 17 = .ok (.invokestatic 99, 3) := by decide +kernel
theorem dX11_leak_20 : decode cX11_leak 20 = .ok (.ifCond .ne 7, 3) := by decide +kernel
theorem dX11_leak_23 : decode cX11_leak 23 = .ok (.iconst 1, 1) := by decide +kernel
theorem dX11_leak_24 : decode cX11_leak 24 = .ok (.goto 4, 3) := by decide +kernel
theorem dX11_leak_27 : decode cX11_leak 27 = .ok (.iconst 0, 1) := by decide +kernel
theorem dX11_leak_28 : decode cX11_leak 28 = .ok (.iconst 0, 1) := by decide +kernel
theorem dX11_leak_29 : decode cX11_leak 29 = .ok (.iload_n 3, 1) := by decide +kernel
theorem dX11_leak_30 : decode cX11_leak 30 = .ok (.ifCond .ge 7, 3) := by decide +kernel
theorem dX11_leak_33 : decode cX11_leak 33 = .ok (.iconst 1, 1) := by decide +kernel
theorem dX11_leak_34 : decode cX11_leak 34 = .ok (.goto 4, 3) := by decide +kernel
theorem dX11_leak_37 : decode cX11_leak 37 = .ok (.iconst 0, 1) := by decide +kernel
theorem dX11_leak_38 : decode cX11_leak 38 = .ok (.iload_n 3, 1) := by decide +kernel
theorem dX11_leak_39 : decode cX11_leak 39 = .ok (.sipush 999, 3) := by decide +kernel
theorem dX11_leak_42 : decode cX11_leak 42 = .ok (.if_icmp .le 7, 3) := by decide +kernel
theorem dX11_leak_45 : decode cX11_leak 45 = .ok (.iconst 1, 1) := by decide +kernel
theorem dX11_leak_46 : decode cX11_leak 46 = .ok (.goto 4, 3) := by decide +kernel
theorem dX11_leak_49 : decode cX11_leak 49 = .ok (.iconst 0, 1) := by decide +kernel
theorem dX11_leak_50 : decode cX11_leak 50 = .ok (.invokevirtual 107, 3) := by decide +kernel
theorem dX11_leak_53 : decode cX11_leak 53 = .ok (.istore 4, 2) := by decide +kernel
theorem dX11_leak_55 : decode cX11_leak 55 = .ok (.iload 4, 2) := by decide +kernel
theorem dX11_leak_57 : decode cX11_leak 57 = .ok (.ifCond .eq 6, 3) := by decide +kernel
theorem dX11_leak_60 : decode cX11_leak 60 = .ok (.iload 4, 2) := by decide +kernel
theorem dX11_leak_62 : decode cX11_leak 62 = .ok (.ireturn, 1) := by decide +kernel
theorem dX11_leak_63 : decode cX11_leak 63 = .ok (.aload_n 0, 1) := by decide +kernel
theorem dX11_leak_64 : decode cX11_leak 64 = .ok (.getfield 29, 3) := by decide +kernel
theorem dX11_leak_67 : decode cX11_leak 67 = .ok (.invokevirtual 111, 3) := by decide +kernel
theorem dX11_leak_70 : decode cX11_leak 70 = .ok (.iload_n 1, 1) := by decide +kernel
theorem dX11_leak_71 : decode cX11_leak 71 = .ok (.iconst 3, 1) := by decide +kernel
theorem dX11_leak_72 : decode cX11_leak 72 = .ok (.imul, 1) := by decide +kernel
theorem dX11_leak_73 : decode cX11_leak 73 = .ok (.iload_n 2, 1) := by decide +kernel
theorem dX11_leak_74 : decode cX11_leak 74 = .ok (.iadd, 1) := by decide +kernel
theorem dX11_leak_75 : decode cX11_leak 75 = .ok (.istore 5, 2) := by decide +kernel
theorem dX11_leak_77 : decode cX11_leak 77 = .ok (.aload_n 0, 1) := by decide +kernel
theorem dX11_leak_78 : decode cX11_leak 78 = .ok (.getfield 10, 3) := by decide +kernel
theorem dX11_leak_81 : decode cX11_leak 81 = .ok (.getfield 149, 3) := by decide +kernel
theorem dX11_leak_84 : decode cX11_leak 84 = .ok (.iload 5, 2) := by decide +kernel
theorem dX11_leak_86 : decode cX11_leak 86 = .ok (.iaload, 1) := by decide +kernel
theorem dX11_leak_87 : decode cX11_leak 87 = .ok (.istore 6, 2) := by decide +kernel
theorem dX11_leak_89 : decode cX11_leak 89 = .ok (.aload_n 0, 1) := by decide +kernel
theorem dX11_leak_90 : decode cX11_leak 90 = .ok (.getfield 10, 3) := by decide +kernel
theorem dX11_leak_93 : decode cX11_leak 93 = .ok (.getfield 149, 3) := by decide +kernel
theorem dX11_leak_96 : decode cX11_leak 96 = .ok (.iload 5, 2) := by decide +kernel
theorem dX11_leak_98 : decode cX11_leak 98 = .ok (.iload_n 3, 1) := by decide +kernel
theorem dX11_leak_99 : decode cX11_leak 99 = .ok (.iastore, 1) := by decide +kernel
theorem dX11_leak_100 : decode cX11_leak 100 = .ok (.iload 6, 2) := by decide +kernel
theorem dX11_leak_102 : decode cX11_leak 102 = .ok (.ireturn, 1) := by decide +kernel
theorem dX11_ticks_0 : decode cX11_ticks 0 = .ok (.aload_n 0, 1) := by decide +kernel
theorem dX11_ticks_1 : decode cX11_ticks 1 = .ok (.iconst 0, 1) := by decide +kernel
theorem dX11_ticks_2 : decode cX11_ticks 2 = .ok (.iconst 0, 1) := by decide +kernel
theorem dX11_ticks_3 : decode cX11_ticks 3 = .ok (.iload_n 1, 1) := by decide +kernel
theorem dX11_ticks_4 : decode cX11_ticks 4 = .ok (.iconst 1, 1) := by decide +kernel
theorem dX11_ticks_5 : decode cX11_ticks 5 = .ok (.if_icmp .ge 7, 3) := by decide +kernel
theorem dX11_ticks_8 : decode cX11_ticks 8 = .ok (.iconst 1, 1) := by decide +kernel
theorem dX11_ticks_9 : decode cX11_ticks 9 = .ok (.goto 4, 3) := by decide +kernel
theorem dX11_ticks_12 : decode cX11_ticks 12 = .ok (.iconst 0, 1) := by decide +kernel
theorem dX11_ticks_13 : decode cX11_ticks 13 = .ok (.iload_n 1, 1) := by decide +kernel
theorem dX11_ticks_14 : decode cX11_ticks 14 = .ok (.sipush 200, 3) := by decide +kernel
theorem dX11_ticks_17 : decode cX11_ticks 17 = .ok (.if_icmp .gt 18, 3) := by decide +kernel
theorem dX11_ticks_20 : decode cX11_ticks 20 = .ok (.iload_n 1, 1) := by decide +kernel
theorem dX11_ticks_21 : decode cX11_ticks 21 = .ok (.sipush 5000, 3) := by decide +kernel
theorem dX11_ticks_24 : decode cX11_ticks 24 = .ok (.aload_n 0, 1) := by decide +kernel
theorem dX11_ticks_25 : decode cX11_ticks 25 = .ok (.getfield 19, 3) := by decide +kernel
theorem dX11_ticks_28 : decode cX11_ticks 28 = .ok (.getfield 152, 3) := by decide +kernel
theorem dX11_ticks_31 : decode cX11_ticks 31 = .ok (.isub, 1) := by decide +kernel
theorem dX11_ticks_32 : decode cX11_ticks 32 = .ok (.if_icmp .le 7, 3) := by decide +kernel
theorem dX11_ticks_35 : decode cX11_ticks 35 = .ok (.iconst 1, 1) := by decide +kernel
theorem dX11_ticks_36 : decode cX11_ticks 36 = .ok (.goto 4, 3) := by decide +kernel
theorem dX11_ticks_39 : decode cX11_ticks 39 = .ok (.iconst 0, 1) := by decide +kernel
theorem dX11_ticks_40 : decode cX11_ticks 40 = .ok (.invokevirtual 107, 3) := by decide +kernel
theorem dX11_ticks_43 : decode cX11_ticks 43 = .ok (.istore_n 2, 1) := by decide +kernel
theorem dX11_ticks_44 : decode cX11_ticks 44 = .ok (.iload_n 2, 1) := by decide +kernel
theorem dX11_ticks_45 : decode cX11_ticks 45 = .ok (.ifCond .eq 5, 3) := by decide +kernel
theorem dX11_ticks_48 : decode cX11_ticks 48 = .ok (.iload_n 2, 1) := by decide +kernel
theorem dX11_ticks_49 : decode cX11_ticks 49 = .ok (.ireturn, 1) := by decide +kernel
theorem dX11_ticks_50 : decode cX11_ticks 50 = .ok (.aload_n 0, 1) := by decide +kernel
theorem dX11_ticks_51 : decode cX11_ticks 51 = .ok (.getfield 29, 3) := by decide +kernel
theorem dX11_ticks_54 : decode cX11_ticks 54 = .ok (.invokevirtual 111, 3) := by decide +kernel
theorem dX11_ticks_57 : decode cX11_ticks 57 = .ok (.iconst 0, 1) := by decide +kernel
theorem dX11_ticks_58 : decode cX11_ticks 58 = .ok (.istore_n 3, 1) := by decide +kernel
theorem dX11_ticks_59 : decode cX11_ticks 59 = .ok (.iload_n 3, 1) := by decide +kernel
theorem dX11_ticks_60 : decode cX11_ticks 60 = .ok (.iload_n 1, 1) := by decide +kernel
theorem dX11_ticks_61 : decode cX11_ticks 61 = .ok (.if_icmp .ge 20, 3) := by decide +kernel
theorem dX11_ticks_64 : decode cX11_ticks 64 = .ok (.aload_n 0, 1) := by decide +kernel
theorem dX11_ticks_65 : decode cX11_ticks 65 = .ok (.getfield 19, 3) := by decide +kernel
theorem dX11_ticks_68 : decode cX11_ticks 68 = .ok (.aload_n 0, 1) := by decide +kernel
theorem dX11_ticks_69 : decode cX11_ticks 69 = .ok (.getfield 10, 3) := by decide +kernel
theorem dX11_ticks_72 : decode cX11_ticks 72 = .ok (.invokevirtual 155, 3) := by decide +kernel
theorem dX11_ticks_75 : decode cX11_ticks 75 = .ok (.iinc 3 1, 3) := by decide +kernel
theorem dX11_ticks_78 : decode cX11_ticks 78 = .ok (.goto (-19), 3) := by decide +kernel
theorem dX11_ticks_81 : decode cX11_ticks 81 = .ok (.aload_n 0, 1) := by decide +kernel
theorem dX11_ticks_82 : decode cX11_ticks 82 = .ok (.getfield 19, 3) := by decide +kernel
