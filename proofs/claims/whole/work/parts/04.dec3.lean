set_option maxRecDepth 100000
theorem dX12_acts_78 : decode cX12_acts 78 = .ok (.iconst 1, 1) := by decide +kernel
theorem dX12_acts_79 : decode cX12_acts 79 = .ok (.isub, 1) := by decide +kernel
theorem dX12_acts_80 : decode cX12_acts 80 = .ok (.aload_n 0, 1) := by decide +kernel
theorem dX12_acts_81 : decode cX12_acts 81 = .ok (.getfield 125, 3) := by decide +kernel
theorem dX12_acts_84 : decode cX12_acts 84 = .ok (.iload 4, 2) := by decide +kernel
theorem dX12_acts_86 : decode cX12_acts 86 = .ok (.iaload, 1) := by decide +kernel
theorem dX12_acts_87 : decode cX12_acts 87 = .ok (.iastore, 1) := by decide +kernel
theorem dX12_acts_88 : decode cX12_acts 88 = .ok (.iinc 4 1, 3) := by decide +kernel
theorem dX12_acts_91 : decode cX12_acts 91 = .ok (.goto (-74), 3) := by decide +kernel
theorem dX12_acts_94 : decode cX12_acts 94 = .ok (.aload_n 0, 1) := by decide +kernel
theorem dX12_acts_95 : decode cX12_acts 95 = .ok (.dup, 1) := by decide +kernel
theorem dX12_acts_96 : decode cX12_acts 96 = .ok (.getfield 376, 3) := by decide +kernel
theorem dX12_acts_99 : decode cX12_acts 99 = .ok (.iconst 1, 1) := by decide +kernel
theorem dX12_acts_100 : decode cX12_acts 100 = .ok (.isub, 1) := by decide +kernel
theorem dX12_acts_101 : decode cX12_acts 101 = .ok (.putfield 376, 3) := by decide +kernel
theorem dX12_acts_104 : decode cX12_acts 104 = .ok (.aload_n 0, 1) := by decide +kernel
theorem dX12_acts_105 : decode cX12_acts 105 = .ok (.getfield 116, 3) := by decide +kernel
theorem dX12_acts_108 : decode cX12_acts 108 = .ok (.aload_n 0, 1) := by decide +kernel
theorem dX12_acts_109 : decode cX12_acts 109 = .ok (.getfield 376, 3) := by decide +kernel
theorem dX12_acts_112 : decode cX12_acts 112 = .ok (.iload_n 1, 1) := by decide +kernel
theorem dX12_acts_113 : decode cX12_acts 113 = .ok (.iastore, 1) := by decide +kernel
theorem dX12_acts_114 : decode cX12_acts 114 = .ok (.aload_n 0, 1) := by decide +kernel
theorem dX12_acts_115 : decode cX12_acts 115 = .ok (.getfield 119, 3) := by decide +kernel
theorem dX12_acts_118 : decode cX12_acts 118 = .ok (.aload_n 0, 1) := by decide +kernel
theorem dX12_acts_119 : decode cX12_acts 119 = .ok (.getfield 376, 3) := by decide +kernel
theorem dX12_acts_122 : decode cX12_acts 122 = .ok (.iload_n 2, 1) := by decide +kernel
theorem dX12_acts_123 : decode cX12_acts 123 = .ok (.iastore, 1) := by decide +kernel
theorem dX12_acts_124 : decode cX12_acts 124 = .ok (.aload_n 0, 1) := by decide +kernel
theorem dX12_acts_125 : decode cX12_acts 125 = .ok (.getfield 122, 3) := by decide +kernel
theorem dX12_acts_128 : decode cX12_acts 128 = .ok (.aload_n 0, 1) := by decide +kernel
theorem dX12_acts_129 : decode cX12_acts 129 = .ok (.getfield 376, 3) := by decide +kernel
theorem dX12_acts_132 : decode cX12_acts 132 = .ok (.aload_n 0, 1) := by decide +kernel
theorem dX12_acts_133 : decode cX12_acts 133 = .ok (.iload_n 1, 1) := by decide +kernel
theorem dX12_acts_134 : decode cX12_acts 134 = .ok (.iload_n 2, 1) := by decide +kernel
theorem dX12_acts_135 : decode cX12_acts 135 = .ok (.invokevirtual 382, 3) := by decide +kernel
theorem dX12_acts_138 : decode cX12_acts 138 = .ok (.iastore, 1) := by decide +kernel
theorem dX12_acts_139 : decode cX12_acts 139 = .ok (.aload_n 0, 1) := by decide +kernel
theorem dX12_acts_140 : decode cX12_acts 140 = .ok (.getfield 125, 3) := by decide +kernel
theorem dX12_acts_143 : decode cX12_acts 143 = .ok (.aload_n 0, 1) := by decide +kernel
theorem dX12_acts_144 : decode cX12_acts 144 = .ok (.getfield 376, 3) := by decide +kernel
theorem dX12_acts_147 : decode cX12_acts 147 = .ok (.iload_n 3, 1) := by decide +kernel
theorem dX12_acts_148 : decode cX12_acts 148 = .ok (.iastore, 1) := by decide +kernel
theorem dX12_acts_149 : decode cX12_acts 149 = .ok (.aload_n 0, 1) := by decide +kernel
theorem dX12_acts_150 : decode cX12_acts 150 = .ok (.dup, 1) := by decide +kernel
theorem dX12_acts_151 : decode cX12_acts 151 = .ok (.getfield 376, 3) := by decide +kernel
theorem dX12_acts_154 : decode cX12_acts 154 = .ok (.iconst 1, 1) := by decide +kernel
theorem dX12_acts_155 : decode cX12_acts 155 = .ok (.iadd, 1) := by decide +kernel
theorem dX12_acts_156 : decode cX12_acts 156 = .ok (.putfield 376, 3) := by decide +kernel
theorem dX12_acts_159 : decode cX12_acts 159 = .ok (.aload_n 0, 1) := by decide +kernel
theorem dX12_acts_160 : decode cX12_acts 160 = .ok (.iload_n 1, 1) := by decide +kernel
theorem dX12_acts_161 : decode cX12_acts 161 = .ok (.iload_n 2, 1) := by decide +kernel
theorem dX12_acts_162 : decode cX12_acts 162 = .ok (.iload_n 3, 1) := by decide +kernel
theorem dX12_acts_163 : decode cX12_acts 163 = .ok (.invokevirtual 385, 3) := by decide +kernel
theorem dX12_acts_166 : decode cX12_acts 166 = .ok (.iconst 1, 1) := by decide +kernel
theorem dX12_acts_167 : decode cX12_acts 167 = .ok (.ireturn, 1) := by decide +kernel
theorem dX12_valve_0 : decode cX12_valve 0 = .ok (.aload_n 0, 1) := by decide +kernel
theorem dX12_valve_1 : decode cX12_valve 1 = .ok (.iload_n 1, 1) := by decide +kernel
theorem dX12_valve_2 : decode cX12_valve 2 = .ok (.invokevirtual 342, 3) := by decide +kernel
theorem dX12_valve_5 : decode cX12_valve 5 = .ok (.ifCond .ne 9, 3) := by decide +kernel
theorem dX12_valve_8 : decode cX12_valve 8 = .ok (.aload_n 0, 1) := by decide +kernel
theorem dX12_valve_9 : decode cX12_valve 9 = .ok (.iconst (-1), 1) := by decide +kernel
theorem dX12_valve_10 : decode cX12_valve 10 = .ok (.invokevirtual 226, 3) := by decide +kernel
theorem dX12_valve_13 : decode cX12_valve 13 = .ok (.ireturn, 1) := by decide +kernel
theorem dX12_valve_14 : decode cX12_valve 14 = .ok (.aload_n 0, 1) := by decide +kernel
theorem dX12_valve_15 : decode cX12_valve 15 = .ok (.getfield 61, 3) := by decide +kernel
theorem dX12_valve_18 : decode cX12_valve 18 = .ok (.iload_n 1, 1) := by decide +kernel
theorem dX12_valve_19 : decode cX12_valve 19 = .ok (.baload, 1) := by decide +kernel
theorem dX12_valve_20 : decode cX12_valve 20 = .ok (.iload_n 2, 1) := by decide +kernel
theorem dX12_valve_21 : decode cX12_valve 21 = .ok (.if_icmp .ne 5, 3) := by decide +kernel
theorem dX12_valve_24 : decode cX12_valve 24 = .ok (.iconst 0, 1) := by decide +kernel
theorem dX12_valve_25 : decode cX12_valve 25 = .ok (.ireturn, 1) := by decide +kernel
theorem dX12_valve_26 : decode cX12_valve 26 = .ok (.iload_n 2, 1) := by decide +kernel
theorem dX12_valve_27 : decode cX12_valve 27 = .ok (.ifCond .eq 19, 3) := by decide +kernel
theorem dX12_valve_30 : decode cX12_valve 30 = .ok (.aload_n 0, 1) := by decide +kernel
theorem dX12_valve_31 : decode cX12_valve 31 = .ok (.iload_n 1, 1) := by decide +kernel
theorem dX12_valve_32 : decode cX12_valve 32 = .ok (.iconst 0, 1) := by decide +kernel
theorem dX12_valve_33 : decode cX12_valve 33 = .ok (.invokevirtual 372, 3) := by decide +kernel
theorem dX12_valve_36 : decode cX12_valve 36 = .ok (.ifCond .lt 10, 3) := by decide +kernel
theorem dX12_valve_39 : decode cX12_valve 39 = .ok (.aload_n 0, 1) := by decide +kernel
theorem dX12_valve_40 : decode cX12_valve 40 = .ok (.bipush (-7), 2) := by decide +kernel
theorem dX12_valve_42 : decode cX12_valve 42 = .ok (.invokevirtual 226, 3) := by decide +kernel
theorem dX12_valve_45 : decode cX12_valve 45 = .ok (.ireturn, 1) := by decide +kernel
theorem dX12_valve_46 : decode cX12_valve 46 = .ok (.aload_n 0, 1) := by decide +kernel
theorem dX12_valve_47 : decode cX12_valve 47 = .ok (.iconst 0, 1) := by decide +kernel
theorem dX12_valve_48 : decode cX12_valve 48 = .ok (.iload_n 1, 1) := by decide +kernel
theorem dX12_valve_49 : decode cX12_valve 49 = .ok (.iload_n 2, 1) := by decide +kernel
theorem dX12_valve_50 : decode cX12_valve 50 = .ok (.ifCond .eq 7, 3) := by decide +kernel
theorem dX12_valve_53 : decode cX12_valve 53 = .ok (.iconst 1, 1) := by decide +kernel
theorem dX12_valve_54 : decode cX12_valve 54 = .ok (.goto 4, 3) := by decide +kernel
theorem dX12_valve_57 : decode cX12_valve 57 = .ok (.iconst 0, 1) := by decide +kernel
theorem dX12_valve_58 : decode cX12_valve 58 = .ok (.invokevirtual 388, 3) := by decide +kernel
theorem dX12_valve_61 : decode cX12_valve 61 = .ok (.ireturn, 1) := by decide +kernel
theorem dX12_start_0 : decode cX12_start 0 = .ok (.aload_n 0, 1) := by decide +kernel
theorem dX12_start_1 : decode cX12_start 1 = .ok (.iload_n 1, 1) := by decide +kernel
theorem dX12_start_2 : decode cX12_start 2 = .ok (.invokevirtual 295, 3) := by decide +kernel
theorem dX12_start_5 : decode cX12_start 5 = .ok (.ifCond .ne 9, 3) := by decide +kernel
theorem dX12_start_8 : decode cX12_start 8 = .ok (.aload_n 0, 1) := by decide +kernel
theorem dX12_start_9 : decode cX12_start 9 = .ok (.iconst (-1), 1) := by decide +kernel
theorem dX12_start_10 : decode cX12_start 10 = .ok (.invokevirtual 226, 3) := by decide +kernel
theorem dX12_start_13 : decode cX12_start 13 = .ok (.ireturn, 1) := by decide +kernel
theorem dX12_start_14 : decode cX12_start 14 = .ok (.aload_n 0, 1) := by decide +kernel
theorem dX12_start_15 : decode cX12_start 15 = .ok (.getfield 65, 3) := by decide +kernel
theorem dX12_start_18 : decode cX12_start 18 = .ok (.iload_n 1, 1) := by decide +kernel
theorem dX12_start_19 : decode cX12_start 19 = .ok (.baload, 1) := by decide +kernel
theorem dX12_start_20 : decode cX12_start 20 = .ok (.iload_n 2, 1) := by decide +kernel
theorem dX12_start_21 : decode cX12_start 21 = .ok (.if_icmp .ne 5, 3) := by decide +kernel
theorem dX12_start_24 : decode cX12_start 24 = .ok (.iconst 0, 1) := by decide +kernel
theorem dX12_start_25 : decode cX12_start 25 = .ok (.ireturn, 1) := by decide +kernel
theorem dX12_start_26 : decode cX12_start 26 = .ok (.iload_n 2, 1) := by decide +kernel
theorem dX12_start_27 : decode cX12_start 27 = .ok (.ifCond .eq 19, 3) := by decide +kernel
theorem dX12_start_30 : decode cX12_start 30 = .ok (.aload_n 0, 1) := by decide +kernel
theorem dX12_start_31 : decode cX12_start 31 = .ok (.getfield 68, 3) := by decide +kernel
theorem dX12_start_34 : decode cX12_start 34 = .ok (.iload_n 1, 1) := by decide +kernel
theorem dX12_start_35 : decode cX12_start 35 = .ok (.baload, 1) := by decide +kernel
theorem dX12_start_36 : decode cX12_start 36 = .ok (.ifCond .eq 10, 3) := by decide +kernel
theorem dX12_start_39 : decode cX12_start 39 = .ok (.aload_n 0, 1) := by decide +kernel
theorem dX12_start_40 : decode cX12_start 40 = .ok (.bipush (-3), 2) := by decide +kernel
theorem dX12_start_42 : decode cX12_start 42 = .ok (.invokevirtual 226, 3) := by decide +kernel
theorem dX12_start_45 : decode cX12_start 45 = .ok (.ireturn, 1) := by decide +kernel
theorem dX12_start_46 : decode cX12_start 46 = .ok (.iload_n 2, 1) := by decide +kernel
theorem dX12_start_47 : decode cX12_start 47 = .ok (.ifCond .eq 19, 3) := by decide +kernel
theorem dX12_start_50 : decode cX12_start 50 = .ok (.aload_n 0, 1) := by decide +kernel
theorem dX12_start_51 : decode cX12_start 51 = .ok (.iload_n 1, 1) := by decide +kernel
theorem dX12_start_52 : decode cX12_start 52 = .ok (.iconst 1, 1) := by decide +kernel
theorem dX12_start_53 : decode cX12_start 53 = .ok (.invokevirtual 372, 3) := by decide +kernel
theorem dX12_start_56 : decode cX12_start 56 = .ok (.ifCond .lt 10, 3) := by decide +kernel
theorem dX12_start_59 : decode cX12_start 59 = .ok (.aload_n 0, 1) := by decide +kernel
theorem dX12_start_60 : decode cX12_start 60 = .ok (.bipush (-7), 2) := by decide +kernel
theorem dX12_start_62 : decode cX12_start 62 = .ok (.invokevirtual 226, 3) := by decide +kernel
theorem dX12_start_65 : decode cX12_start 65 = .ok (.ireturn, 1) := by decide +kernel
theorem dX12_start_66 : decode cX12_start 66 = .ok (.aload_n 0, 1) := by decide +kernel
theorem dX12_start_67 : decode cX12_start 67 = .ok (.iconst 1, 1) := by decide +kernel
theorem dX12_start_68 : decode cX12_start 68 = .ok (.iload_n 1, 1) := by decide +kernel
theorem dX12_start_69 : decode cX12_start 69 = .ok (.iload_n 2, 1) := by decide +kernel
theorem dX12_start_70 : decode cX12_start 70 = .ok (.ifCond .eq 7, 3) := by decide +kernel
theorem dX12_start_73 : decode cX12_start 73 = .ok (.iconst 1, 1) := by decide +kernel
theorem dX12_start_74 : decode cX12_start 74 = .ok (.goto 4, 3) := by decide +kernel
theorem dX12_start_77 : decode cX12_start 77 = .ok (.iconst 0, 1) := by decide +kernel
theorem dX12_start_78 : decode cX12_start 78 = .ok (.invokevirtual 388, 3) := by decide +kernel
theorem dX12_start_81 : decode cX12_start 81 = .ok (.ireturn, 1) := by decide +kernel
theorem dX12_warmUp_0 : decode cX12_warmUp 0 = .ok (.aload_n 0, 1) := by decide +kernel
theorem dX12_warmUp_1 : decode cX12_warmUp 1 = .ok (.iload_n 1, 1) := by decide +kernel
theorem dX12_warmUp_2 : decode cX12_warmUp 2 = .ok (.invokevirtual 295, 3) := by decide +kernel
theorem dX12_warmUp_5 : decode cX12_warmUp 5 = .ok (.ifCond .ne 9, 3) := by decide +kernel
theorem dX12_warmUp_8 : decode cX12_warmUp 8 = .ok (.aload_n 0, 1) := by decide +kernel
theorem dX12_warmUp_9 : decode cX12_warmUp 9 = .ok (.iconst (-1), 1) := by decide +kernel
theorem dX12_warmUp_10 : decode cX12_warmUp 10 = .ok (.invokevirtual 226, 3) := by decide +kernel
theorem dX12_warmUp_13 : decode cX12_warmUp 13 = .ok (.ireturn, 1) := by decide +kernel
theorem dX12_warmUp_14 : decode cX12_warmUp 14 = .ok (.aload_n 0, 1) := by decide +kernel
theorem dX12_warmUp_15 : decode cX12_warmUp 15 = .ok (.getfield 40, 3) := by decide +kernel
theorem dX12_warmUp_18 : decode cX12_warmUp 18 = .ok (.iload_n 1, 1) := by decide +kernel
theorem dX12_warmUp_19 : decode cX12_warmUp 19 = .ok (.iaload, 1) := by decide +kernel
theorem dX12_warmUp_20 : decode cX12_warmUp 20 = .ok (.ifCond .ne 10, 3) := by decide +kernel
theorem dX12_warmUp_23 : decode cX12_warmUp 23 = .ok (.aload_n 0, 1) := by decide +kernel
theorem dX12_warmUp_24 : decode cX12_warmUp 24 = .ok (.bipush (-3), 2) := by decide +kernel
theorem dX12_warmUp_26 : decode cX12_warmUp 26 = .ok (.invokevirtual 226, 3) := by decide +kernel
theorem dX12_warmUp_29 : decode cX12_warmUp 29 = .ok (.ireturn, 1) := by decide +kernel
theorem dX12_warmUp_30 : decode cX12_warmUp 30 = .ok (.aload_n 0, 1) := by decide +kernel
theorem dX12_warmUp_31 : decode cX12_warmUp 31 = .ok (.getfield 68, 3) := by decide +kernel
theorem dX12_warmUp_34 : decode cX12_warmUp 34 = .ok (.iload_n 1, 1) := by decide +kernel
theorem dX12_warmUp_35 : decode cX12_warmUp 35 = .ok (.baload, 1) := by decide +kernel
theorem dX12_warmUp_36 : decode cX12_warmUp 36 = .ok (.ifCond .eq 7, 3) := by decide +kernel
theorem dX12_warmUp_39 : decode cX12_warmUp 39 = .ok (.iconst 0, 1) := by decide +kernel
theorem dX12_warmUp_40 : decode cX12_warmUp 40 = .ok (.goto 10, 3) := by decide +kernel
theorem dX12_warmUp_43 : decode cX12_warmUp 43 = .ok (.aload_n 0, 1) := by decide +kernel
theorem dX12_warmUp_44 : decode cX12_warmUp 44 = .ok (.iconst 2, 1) := by decide +kernel
theorem dX12_warmUp_45 : decode cX12_warmUp 45 = .ok (.iload_n 1, 1) := by decide +kernel
theorem dX12_warmUp_46 : decode cX12_warmUp 46 = .ok (.iconst 2, 1) := by decide +kernel
theorem dX12_warmUp_47 : decode cX12_warmUp 47 = .ok (.invokevirtual 388, 3) := by decide +kernel
theorem dX12_warmUp_50 : decode cX12_warmUp 50 = .ok (.ireturn, 1) := by decide +kernel
theorem dX12_undo_0 : decode cX12_undo 0 = .ok (.aload_n 0, 1) := by decide +kernel
theorem dX12_undo_1 : decode cX12_undo 1 = .ok (.getfield 376, 3) := by decide +kernel
theorem dX12_undo_4 : decode cX12_undo 4 = .ok (.ifCond .ne 10, 3) := by decide +kernel
theorem dX12_undo_7 : decode cX12_undo 7 = .ok (.aload_n 0, 1) := by decide +kernel
theorem dX12_undo_8 : decode cX12_undo 8 = .ok (.bipush (-3), 2) := by decide +kernel
theorem dX12_undo_10 : decode cX12_undo 10 = .ok (.invokevirtual 226, 3) := by decide +kernel
theorem dX12_undo_13 : decode cX12_undo 13 = .ok (.ireturn, 1) := by decide +kernel
theorem dX12_undo_14 : decode cX12_undo 14 = .ok (.aload_n 0, 1) := by decide +kernel
theorem dX12_undo_15 : decode cX12_undo 15 = .ok (.dup, 1) := by decide +kernel
theorem dX12_undo_16 : decode cX12_undo 16 = .ok (.getfield 376, 3) := by decide +kernel
theorem dX12_undo_19 : decode cX12_undo 19 = .ok (.iconst 1, 1) := by decide +kernel
theorem dX12_undo_20 : decode cX12_undo 20 = .ok (.isub, 1) := by decide +kernel
theorem dX12_undo_21 : decode cX12_undo 21 = .ok (.putfield 376, 3) := by decide +kernel
theorem dX12_undo_24 : decode cX12_undo 24 = .ok (.aload_n 0, 1) := by decide +kernel
theorem dX12_undo_25 : decode cX12_undo 25 = .ok (.dup, 1) := by decide +kernel
theorem dX12_undo_26 : decode cX12_undo 26 = .ok (.getfield 379, 3) := by decide +kernel
theorem dX12_undo_29 : decode cX12_undo 29 = .ok (.iconst 1, 1) := by decide +kernel
theorem dX12_undo_30 : decode cX12_undo 30 = .ok (.iadd, 1) := by decide +kernel
theorem dX12_undo_31 : decode cX12_undo 31 = .ok (.putfield 379, 3) := by decide +kernel
theorem dX12_undo_34 : decode cX12_undo 34 = .ok (.aload_n 0, 1) := by decide +kernel
theorem dX12_undo_35 : decode cX12_undo 35 = .ok (.aload_n 0, 1) := by decide +kernel
theorem dX12_undo_36 : decode cX12_undo 36 = .ok (.getfield 116, 3) := by decide +kernel
theorem dX12_undo_39 : decode cX12_undo 39 = .ok (.aload_n 0, 1) := by decide +kernel
theorem dX12_undo_40 : decode cX12_undo 40 = .ok (.getfield 376, 3) := by decide +kernel
theorem dX12_undo_43 : decode cX12_undo 43 = .ok (.iaload, 1) := by decide +kernel
theorem dX12_undo_44 : decode cX12_undo 44 = .ok (.aload_n 0, 1) := by decide +kernel
theorem dX12_undo_45 : decode cX12_undo 45 = .ok (.getfield 119, 3) := by decide +kernel
theorem dX12_undo_48 : decode cX12_undo 48 = .ok (.aload_n 0, 1) := by decide +kernel
theorem dX12_undo_49 : decode cX12_undo 49 = .ok (.getfield 376, 3) := by decide +kernel
theorem dX12_undo_52 : decode cX12_undo 52 = .ok (.iaload, 1) := by decide +kernel
theorem dX12_undo_53 : decode cX12_undo 53 = .ok (.aload_n 0, 1) := by decide +kernel
theorem dX12_undo_54 : decode cX12_undo 54 = .ok (.getfield 122, 3) := by decide +kernel
theorem dX12_undo_57 : decode cX12_undo 57 = .ok (.aload_n 0, 1) := by decide +kernel
theorem dX12_undo_58 : decode cX12_undo 58 = .ok (.getfield 376, 3) := by decide +kernel
theorem dX12_undo_61 : decode cX12_undo 61 = .ok (.iaload, 1) := by decide +kernel
theorem dX12_undo_62 : decode cX12_undo 62 = .ok (.invokevirtual 385, 3) := by decide +kernel
theorem dX12_undo_65 : decode cX12_undo 65 = .ok (.iconst 1, 1) := by decide +kernel
theorem dX12_undo_66 : decode cX12_undo 66 = .ok (.ireturn, 1) := by decide +kernel
theorem dX12_redo_0 : decode cX12_redo 0 = .ok (.aload_n 0, 1) := by decide +kernel
theorem dX12_redo_1 : decode cX12_redo 1 = .ok (.getfield 379, 3) := by decide +kernel
theorem dX12_redo_4 : decode cX12_redo 4 = .ok (.ifCond .ne 10, 3) := by decide +kernel
theorem dX12_redo_7 : decode cX12_redo 7 = .ok (.aload_n 0, 1) := by decide +kernel
theorem dX12_redo_8 : decode cX12_redo 8 = .ok (.bipush (-3), 2) := by decide +kernel
theorem dX12_redo_10 : decode cX12_redo 10 = .ok (.invokevirtual 226, 3) := by decide +kernel
theorem dX12_redo_13 : decode cX12_redo 13 = .ok (.ireturn, 1) := by decide +kernel
theorem dX12_redo_14 : decode cX12_redo 14 = .ok (.aload_n 0, 1) := by decide +kernel
theorem dX12_redo_15 : decode cX12_redo 15 = .ok (.aload_n 0, 1) := by decide +kernel
theorem dX12_redo_16 : decode cX12_redo 16 = .ok (.getfield 116, 3) := by decide +kernel
theorem dX12_redo_19 : decode cX12_redo 19 = .ok (.aload_n 0, 1) := by decide +kernel
theorem dX12_redo_20 : decode cX12_redo 20 = .ok (.getfield 376, 3) := by decide +kernel
theorem dX12_redo_23 : decode cX12_redo 23 = .ok (.iaload, 1) := by decide +kernel
theorem dX12_redo_24 : decode cX12_redo 24 = .ok (.aload_n 0, 1) := by decide +kernel
theorem dX12_redo_25 : decode cX12_redo 25 = .ok (.getfield 119, 3) := by decide +kernel
theorem dX12_redo_28 : decode cX12_redo 28 = .ok (.aload_n 0, 1) := by decide +kernel
theorem dX12_redo_29 : decode cX12_redo 29 = .ok (.getfield 376, 3) := by decide +kernel
theorem dX12_redo_32 : decode cX12_redo 32 = .ok (.iaload, 1) := by decide +kernel
theorem dX12_redo_33 : decode cX12_redo 33 = .ok (.aload_n 0, 1) := by decide +kernel
theorem dX12_redo_34 : decode cX12_redo 34 = .ok (.getfield 125, 3) := by decide +kernel
theorem dX12_redo_37 : decode cX12_redo 37 = .ok (.aload_n 0, 1) := by decide +kernel
theorem dX12_redo_38 : decode cX12_redo 38 = .ok (.getfield 376, 3) := by decide +kernel
theorem dX12_redo_41 : decode cX12_redo 41 = .ok (.iaload, 1) := by decide +kernel
theorem dX12_redo_42 : decode cX12_redo 42 = .ok (.invokevirtual 385, 3) := by decide +kernel
theorem dX12_redo_45 : decode cX12_redo 45 = .ok (.aload_n 0, 1) := by decide +kernel
theorem dX12_redo_46 : decode cX12_redo 46 = .ok (.dup, 1) := by decide +kernel
theorem dX12_redo_47 : decode cX12_redo 47 = .ok (.getfield 376, 3) := by decide +kernel
theorem dX12_redo_50 : decode cX12_redo 50 = .ok (.iconst 1, 1) := by decide +kernel
theorem dX12_redo_51 : decode cX12_redo 51 = .ok (.iadd, 1) := by decide +kernel
theorem dX12_redo_52 : decode cX12_redo 52 = .ok (.putfield 376, 3) := by decide +kernel
theorem dX12_redo_55 : decode cX12_redo 55 = .ok (.aload_n 0, 1) := by decide +kernel
theorem dX12_redo_56 : decode cX12_redo 56 = .ok (.dup, 1) := by decide +kernel
theorem dX12_redo_57 : decode cX12_redo 57 = .ok (.getfield 379, 3) := by decide +kernel
theorem dX12_redo_60 : decode cX12_redo 60 = .ok (.iconst 1, 1) := by decide +kernel
theorem dX12_redo_61 : decode cX12_redo 61 = .ok (.isub, 1) := by decide +kernel
theorem dX12_redo_62 : decode cX12_redo 62 = .ok (.putfield 379, 3) := by decide +kernel
theorem dX12_redo_65 : decode cX12_redo 65 = .ok (.iconst 1, 1) := by decide +kernel
theorem dX12_redo_66 : decode cX12_redo 66 = .ok (.ireturn, 1) := by decide +kernel
theorem dX12_bits_0 : decode cX12_bits 0 = .ok (.iconst 0, 1) := by decide +kernel
theorem dX12_bits_1 : decode cX12_bits 1 = .ok (.istore_n 1, 1) := by decide +kernel
theorem dX12_bits_2 : decode cX12_bits 2 = .ok (.iconst 0, 1) := by decide +kernel
theorem dX12_bits_3 : decode cX12_bits 3 = .ok (.istore_n 2, 1) := by decide +kernel
theorem dX12_bits_4 : decode cX12_bits 4 = .ok (.iload_n 2, 1) := by decide +kernel
theorem dX12_bits_5 : decode cX12_bits 5 = .ok (.bipush 31, 2) := by decide +kernel
theorem dX12_bits_7 : decode cX12_bits 7 = .ok (.if_icmp .ge 17, 3) := by decide +kernel
theorem dX12_bits_10 : decode cX12_bits 10 = .ok (.iload_n 1, 1) := by decide +kernel
theorem dX12_bits_11 : decode cX12_bits 11 = .ok (.iload_n 0, 1) := by decide +kernel
theorem dX12_bits_12 : decode cX12_bits 12 = .ok (.iload_n 2, 1) := by decide +kernel
theorem dX12_bits_13 : decode cX12_bits 13 = .ok (.ishr, 1) := by decide +kernel
theorem dX12_bits_14 : decode cX12_bits 14 = .ok (.iconst 1, 1) := by decide +kernel
theorem dX12_bits_15 : decode cX12_bits 15 = .ok (.iand, 1) := by decide +kernel
theorem dX12_bits_16 : decode cX12_bits 16 = .ok (.iadd, 1) := by decide +kernel
theorem dX12_bits_17 : decode cX12_bits 17 = .ok (.istore_n 1, 1) := by decide +kernel
theorem dX12_bits_18 : decode cX12_bits 18 = .ok (.iinc 2 1, 3) := by decide +kernel
theorem dX12_bits_21 : decode cX12_bits 21 = .ok (.goto (-17), 3) := by decide +kernel
theorem dX12_bits_24 : decode cX12_bits 24 = .ok (.iload_n 1, 1) := by decide +kernel
theorem dX12_bits_25 : decode cX12_bits 25 = .ok (.ireturn, 1) := by decide +kernel
theorem dX12_mayStart_0 : decode cX12_mayStart 0 = .ok (.aload_n 0, 1) := by decide +kernel
theorem dX12_mayStart_1 : decode cX12_mayStart 1 = .ok (.getfield 65, 3) := by decide +kernel
theorem dX12_mayStart_4 : decode cX12_mayStart 4 = .ok (.iload_n 1, 1) := by decide +kernel
theorem dX12_mayStart_5 : decode cX12_mayStart 5 = .ok (.baload, 1) := by decide +kernel
theorem dX12_mayStart_6 : decode cX12_mayStart 6 = .ok (.ifCond .ne 25, 3) := by decide +kernel
theorem dX12_mayStart_9 : decode cX12_mayStart 9 = .ok (.aload_n 0, 1) := by decide +kernel
theorem dX12_mayStart_10 : decode cX12_mayStart 10 = .ok (.getfield 68, 3) := by decide +kernel
theorem dX12_mayStart_13 : decode cX12_mayStart 13 = .ok (.iload_n 1, 1) := by decide +kernel
theorem dX12_mayStart_14 : decode cX12_mayStart 14 = .ok (.baload, 1) := by decide +kernel
theorem dX12_mayStart_15 : decode cX12_mayStart 15 = .ok (.ifCond .ne 16, 3) := by decide +kernel
theorem dX12_mayStart_18 : decode cX12_mayStart 18 = .ok (.aload_n 0, 1) := by decide +kernel
theorem dX12_mayStart_19 : decode cX12_mayStart 19 = .ok (.iload_n 1, 1) := by decide +kernel
theorem dX12_mayStart_20 : decode cX12_mayStart 20 = .ok (.iconst 1, 1) := by decide +kernel
theorem dX12_mayStart_21 : decode cX12_mayStart 21 = .ok (.invokevirtual 372, 3) := by decide +kernel
theorem dX12_mayStart_24 : decode cX12_mayStart 24 = .ok (.ifCond .ge 7, 3) := by decide +kernel
theorem dX12_mayStart_27 : decode cX12_mayStart 27 = .ok (.iconst 1, 1) := by decide +kernel
theorem dX12_mayStart_28 : decode cX12_mayStart 28 = .ok (.goto 4, 3) := by decide +kernel
theorem dX12_mayStart_31 : decode cX12_mayStart 31 = .ok (.iconst 0, 1) := by decide +kernel
theorem dX12_mayStart_32 : decode cX12_mayStart 32 = .ok (.ireturn, 1) := by decide +kernel
theorem dX12_findOrder_0 : decode cX12_findOrder 0 = .ok (.iload_n 1, 1) := by decide +kernel
theorem dX12_findOrder_1 : decode cX12_findOrder 1 = .ok (.invokestatic 391, 3) := by decide +kernel
theorem dX12_findOrder_4 : decode cX12_findOrder 4 = .ok (.istore_n 2, 1) := by decide +kernel
theorem dX12_findOrder_5 : decode cX12_findOrder 5 = .ok (.iconst 0, 1) := by decide +kernel
theorem dX12_findOrder_6 : decode cX12_findOrder 6 = .ok (.istore_n 3, 1) := by decide +kernel
theorem dX12_findOrder_7 : decode cX12_findOrder 7 = .ok (.aload_n 0, 1) := by decide +kernel
theorem dX12_findOrder_8 : decode cX12_findOrder 8 = .ok (.getfield 128, 3) := by decide +kernel
theorem dX12_findOrder_11 : decode cX12_findOrder 11 = .ok (.iconst 0, 1) := by decide +kernel
theorem dX12_findOrder_12 : decode cX12_findOrder 12 = .ok (.iconst (-1), 1) := by decide +kernel
theorem dX12_findOrder_13 : decode cX12_findOrder 13 = .ok (.iastore, 1) := by decide +kernel
theorem dX12_findOrder_14 : decode cX12_findOrder 14 = .ok (.iconst 0, 1) := by decide +kernel
theorem dX12_findOrder_15 : decode cX12_findOrder 15 = .ok (.istore 4, 2) := by decide +kernel
theorem dX12_findOrder_17 : decode cX12_findOrder 17 = .ok (.iload_n 3, 1) := by decide +kernel
theorem dX12_findOrder_18 : decode cX12_findOrder 18 = .ok (.ifCond .lt 155, 3) := by decide +kernel
theorem dX12_findOrder_21 : decode cX12_findOrder 21 = .ok (.iload 4, 2) := by decide +kernel
theorem dX12_findOrder_23 : decode cX12_findOrder 23 = .ok (.ifCond .ne 150, 3) := by decide +kernel
theorem dX12_findOrder_26 : decode cX12_findOrder 26 = .ok (.aload_n 0, 1) := by decide +kernel
theorem dX12_findOrder_27 : decode cX12_findOrder 27 = .ok (.getfield 128, 3) := by decide +kernel
theorem dX12_findOrder_30 : decode cX12_findOrder 30 = .ok (.iload_n 3, 1) := by decide +kernel
theorem dX12_findOrder_31 : decode cX12_findOrder 31 = .ok (.iaload, 1) := by decide +kernel
theorem dX12_findOrder_32 : decode cX12_findOrder 32 = .ok (.ifCond .lt 15, 3) := by decide +kernel
theorem dX12_findOrder_35 : decode cX12_findOrder 35 = .ok (.aload_n 0, 1) := by decide +kernel
theorem dX12_findOrder_36 : decode cX12_findOrder 36 = .ok (.getfield 65, 3) := by decide +kernel
theorem dX12_findOrder_39 : decode cX12_findOrder 39 = .ok (.aload_n 0, 1) := by decide +kernel
theorem dX12_findOrder_40 : decode cX12_findOrder 40 = .ok (.getfield 128, 3) := by decide +kernel
theorem dX12_findOrder_43 : decode cX12_findOrder 43 = .ok (.iload_n 3, 1) := by decide +kernel
theorem dX12_findOrder_44 : decode cX12_findOrder 44 = .ok (.iaload, 1) := by decide +kernel
theorem dX12_findOrder_45 : decode cX12_findOrder 45 = .ok (.iconst 0, 1) := by decide +kernel
theorem dX12_findOrder_46 : decode cX12_findOrder 46 = .ok (.bastore, 1) := by decide +kernel
theorem dX12_findOrder_47 : decode cX12_findOrder 47 = .ok (.aload_n 0, 1) := by decide +kernel
theorem dX12_findOrder_48 : decode cX12_findOrder 48 = .ok (.getfield 128, 3) := by decide +kernel
theorem dX12_findOrder_51 : decode cX12_findOrder 51 = .ok (.iload_n 3, 1) := by decide +kernel
theorem dX12_findOrder_52 : decode cX12_findOrder 52 = .ok (.dup2, 1) := by decide +kernel
theorem dX12_findOrder_53 : decode cX12_findOrder 53 = .ok (.iaload, 1) := by decide +kernel
theorem dX12_findOrder_54 : decode cX12_findOrder 54 = .ok (.iconst 1, 1) := by decide +kernel
theorem dX12_findOrder_55 : decode cX12_findOrder 55 = .ok (.iadd, 1) := by decide +kernel
theorem dX12_findOrder_56 : decode cX12_findOrder 56 = .ok (.iastore, 1) := by decide +kernel
theorem dX12_findOrder_57 : decode cX12_findOrder 57 = .ok (.aload_n 0, 1) := by decide +kernel
theorem dX12_findOrder_58 : decode cX12_findOrder 58 = .ok (.getfield 128, 3) := by decide +kernel
theorem dX12_findOrder_61 : decode cX12_findOrder 61 = .ok (.iload_n 3, 1) := by decide +kernel
theorem dX12_findOrder_62 : decode cX12_findOrder 62 = .ok (.iaload, 1) := by decide +kernel
theorem dX12_findOrder_63 : decode cX12_findOrder 63 = .ok (.aload_n 0, 1) := by decide +kernel
theorem dX12_findOrder_64 : decode cX12_findOrder 64 = .ok (.getfield 217, 3) := by decide +kernel
theorem dX12_findOrder_67 : decode cX12_findOrder 67 = .ok (.if_icmp .ge 42, 3) := by decide +kernel
theorem dX12_findOrder_70 : decode cX12_findOrder 70 = .ok (.iload_n 1, 1) := by decide +kernel
theorem dX12_findOrder_71 : decode cX12_findOrder 71 = .ok (.aload_n 0, 1) := by decide +kernel
theorem dX12_findOrder_72 : decode cX12_findOrder 72 = .ok (.getfield 128, 3) := by decide +kernel
theorem dX12_findOrder_75 : decode cX12_findOrder 75 = .ok (.iload_n 3, 1) := by decide +kernel
theorem dX12_findOrder_76 : decode cX12_findOrder 76 = .ok (.iaload, 1) := by decide +kernel
theorem dX12_findOrder_77 : decode cX12_findOrder 77 = .ok (.ishr, 1) := by decide +kernel
theorem dX12_findOrder_78 : decode cX12_findOrder 78 = .ok (.iconst 1, 1) := by decide +kernel
theorem dX12_findOrder_79 : decode cX12_findOrder 79 = .ok (.iand, 1) := by decide +kernel
theorem dX12_findOrder_80 : decode cX12_findOrder 80 = .ok (.ifCond .eq 16, 3) := by decide +kernel
theorem dX12_findOrder_83 : decode cX12_findOrder 83 = .ok (.aload_n 0, 1) := by decide +kernel
theorem dX12_findOrder_84 : decode cX12_findOrder 84 = .ok (.aload_n 0, 1) := by decide +kernel
theorem dX12_findOrder_85 : decode cX12_findOrder 85 = .ok (.getfield 128, 3) := by decide +kernel
theorem dX12_findOrder_88 : decode cX12_findOrder 88 = .ok (.iload_n 3, 1) := by decide +kernel
theorem dX12_findOrder_89 : decode cX12_findOrder 89 = .ok (.iaload, 1) := by decide +kernel
theorem dX12_findOrder_90 : decode cX12_findOrder 90 = .ok (.invokevirtual 394, 3) := by decide +kernel
theorem dX12_findOrder_93 : decode cX12_findOrder 93 = .ok (.ifCond .ne 16, 3) := by decide +kernel
theorem dX12_findOrder_96 : decode cX12_findOrder 96 = .ok (.aload_n 0, 1) := by decide +kernel
theorem dX12_findOrder_97 : decode cX12_findOrder 97 = .ok (.getfield 128, 3) := by decide +kernel
theorem dX12_findOrder_100 : decode cX12_findOrder 100 = .ok (.iload_n 3, 1) := by decide +kernel
theorem dX12_findOrder_101 : decode cX12_findOrder 101 = .ok (.dup2, 1) := by decide +kernel
theorem dX12_findOrder_102 : decode cX12_findOrder 102 = .ok (.iaload, 1) := by decide +kernel
theorem dX12_findOrder_103 : decode cX12_findOrder 103 = .ok (.iconst 1, 1) := by decide +kernel
theorem dX12_findOrder_104 : decode cX12_findOrder 104 = .ok (.iadd, 1) := by decide +kernel
theorem dX12_findOrder_105 : decode cX12_findOrder 105 = .ok (.iastore, 1) := by decide +kernel
theorem dX12_findOrder_106 : decode cX12_findOrder 106 = .ok (.goto (-49), 3) := by decide +kernel
theorem dX12_findOrder_109 : decode cX12_findOrder 109 = .ok (.aload_n 0, 1) := by decide +kernel
theorem dX12_findOrder_110 : decode cX12_findOrder 110 = .ok (.getfield 128, 3) := by decide +kernel
theorem dX12_findOrder_113 : decode cX12_findOrder 113 = .ok (.iload_n 3, 1) := by decide +kernel
theorem dX12_findOrder_114 : decode cX12_findOrder 114 = .ok (.iaload, 1) := by decide +kernel
theorem dX12_findOrder_115 : decode cX12_findOrder 115 = .ok (.aload_n 0, 1) := by decide +kernel
theorem dX12_findOrder_116 : decode cX12_findOrder 116 = .ok (.getfield 217, 3) := by decide +kernel
theorem dX12_findOrder_119 : decode cX12_findOrder 119 = .ok (.if_icmp .lt 16, 3) := by decide +kernel
theorem dX12_findOrder_122 : decode cX12_findOrder 122 = .ok (.aload_n 0, 1) := by decide +kernel
theorem dX12_findOrder_123 : decode cX12_findOrder 123 = .ok (.getfield 128, 3) := by decide +kernel
theorem dX12_findOrder_126 : decode cX12_findOrder 126 = .ok (.iload_n 3, 1) := by decide +kernel
theorem dX12_findOrder_127 : decode cX12_findOrder 127 = .ok (.iconst (-1), 1) := by decide +kernel
theorem dX12_findOrder_128 : decode cX12_findOrder 128 = .ok (.iastore, 1) := by decide +kernel
theorem dX12_findOrder_129 : decode cX12_findOrder 129 = .ok (.iinc 3 (-1), 3) := by decide +kernel
theorem dX12_findOrder_132 : decode cX12_findOrder 132 = .ok (.goto (-115), 3) := by decide +kernel
theorem dX12_findOrder_135 : decode cX12_findOrder 135 = .ok (.aload_n 0, 1) := by decide +kernel
theorem dX12_findOrder_136 : decode cX12_findOrder 136 = .ok (.getfield 65, 3) := by decide +kernel
theorem dX12_findOrder_139 : decode cX12_findOrder 139 = .ok (.aload_n 0, 1) := by decide +kernel
theorem dX12_findOrder_140 : decode cX12_findOrder 140 = .ok (.getfield 128, 3) := by decide +kernel
theorem dX12_findOrder_143 : decode cX12_findOrder 143 = .ok (.iload_n 3, 1) := by decide +kernel
theorem dX12_findOrder_144 : decode cX12_findOrder 144 = .ok (.iaload, 1) := by decide +kernel
theorem dX12_findOrder_145 : decode cX12_findOrder 145 = .ok (.iconst 1, 1) := by decide +kernel
theorem dX12_findOrder_146 : decode cX12_findOrder 146 = .ok (.bastore, 1) := by decide +kernel
theorem dX12_findOrder_147 : decode cX12_findOrder 147 = .ok (.iload_n 3, 1) := by decide +kernel
theorem dX12_findOrder_148 : decode cX12_findOrder 148 = .ok (.iload_n 2, 1) := by decide +kernel
theorem dX12_findOrder_149 : decode cX12_findOrder 149 = .ok (.iconst 1, 1) := by decide +kernel
theorem dX12_findOrder_150 : decode cX12_findOrder 150 = .ok (.isub, 1) := by decide +kernel
theorem dX12_findOrder_151 : decode cX12_findOrder 151 = .ok (.if_icmp .ne 9, 3) := by decide +kernel
theorem dX12_findOrder_154 : decode cX12_findOrder 154 = .ok (.iconst 1, 1) := by decide +kernel
theorem dX12_findOrder_155 : decode cX12_findOrder 155 = .ok (.istore 4, 2) := by decide +kernel
theorem dX12_findOrder_157 : decode cX12_findOrder 157 = .ok (.goto (-140), 3) := by decide +kernel
theorem dX12_findOrder_160 : decode cX12_findOrder 160 = .ok (.iinc 3 1, 3) := by decide +kernel
theorem dX12_findOrder_163 : decode cX12_findOrder 163 = .ok (.aload_n 0, 1) := by decide +kernel
theorem dX12_findOrder_164 : decode cX12_findOrder 164 = .ok (.getfield 128, 3) := by decide +kernel
theorem dX12_findOrder_167 : decode cX12_findOrder 167 = .ok (.iload_n 3, 1) := by decide +kernel
theorem dX12_findOrder_168 : decode cX12_findOrder 168 = .ok (.iconst (-1), 1) := by decide +kernel
theorem dX12_findOrder_169 : decode cX12_findOrder 169 = .ok (.iastore, 1) := by decide +kernel
theorem dX12_findOrder_170 : decode cX12_findOrder 170 = .ok (.goto (-153), 3) := by decide +kernel
theorem dX12_findOrder_173 : decode cX12_findOrder 173 = .ok (.iconst 0, 1) := by decide +kernel
theorem dX12_findOrder_174 : decode cX12_findOrder 174 = .ok (.istore 5, 2) := by decide +kernel
theorem dX12_findOrder_176 : decode cX12_findOrder 176 = .ok (.iload 5, 2) := by decide +kernel
theorem dX12_findOrder_178 : decode cX12_findOrder 178 = .ok (.iload_n 2, 1) := by decide +kernel
theorem dX12_findOrder_179 : decode cX12_findOrder 179 = .ok (.if_icmp .ge 41, 3) := by decide +kernel
theorem dX12_findOrder_182 : decode cX12_findOrder 182 = .ok (.iload 4, 2) := by decide +kernel
theorem dX12_findOrder_184 : decode cX12_findOrder 184 = .ok (.ifCond .eq 36, 3) := by decide +kernel
theorem dX12_findOrder_187 : decode cX12_findOrder 187 = .ok (.aload_n 0, 1) := by decide +kernel
theorem dX12_findOrder_188 : decode cX12_findOrder 188 = .ok (.getfield 131, 3) := by decide +kernel
theorem dX12_findOrder_191 : decode cX12_findOrder 191 = .ok (.iload 5, 2) := by decide +kernel
theorem dX12_findOrder_193 : decode cX12_findOrder 193 = .ok (.aload_n 0, 1) := by decide +kernel
theorem dX12_findOrder_194 : decode cX12_findOrder 194 = .ok (.getfield 128, 3) := by decide +kernel
theorem dX12_findOrder_197 : decode cX12_findOrder 197 = .ok (.iload 5, 2) := by decide +kernel
theorem dX12_findOrder_199 : decode cX12_findOrder 199 = .ok (.iaload, 1) := by decide +kernel
theorem dX12_findOrder_200 : decode cX12_findOrder 200 = .ok (.iastore, 1) := by decide +kernel
theorem dX12_findOrder_201 : decode cX12_findOrder 201 = .ok (.aload_n 0, 1) := by decide +kernel
theorem dX12_findOrder_202 : decode cX12_findOrder 202 = .ok (.getfield 65, 3) := by decide +kernel
theorem dX12_findOrder_205 : decode cX12_findOrder 205 = .ok (.aload_n 0, 1) := by decide +kernel
theorem dX12_findOrder_206 : decode cX12_findOrder 206 = .ok (.getfield 128, 3) := by decide +kernel
theorem dX12_findOrder_209 : decode cX12_findOrder 209 = .ok (.iload 5, 2) := by decide +kernel
theorem dX12_findOrder_211 : decode cX12_findOrder 211 = .ok (.iaload, 1) := by decide +kernel
theorem dX12_findOrder_212 : decode cX12_findOrder 212 = .ok (.iconst 0, 1) := by decide +kernel
theorem dX12_findOrder_213 : decode cX12_findOrder 213 = .ok (.bastore, 1) := by decide +kernel
theorem dX12_findOrder_214 : decode cX12_findOrder 214 = .ok (.iinc 5 1, 3) := by decide +kernel
theorem dX12_findOrder_217 : decode cX12_findOrder 217 = .ok (.goto (-41), 3) := by decide +kernel
theorem dX12_findOrder_220 : decode cX12_findOrder 220 = .ok (.iload 4, 2) := by decide +kernel
theorem dX12_findOrder_222 : decode cX12_findOrder 222 = .ok (.ireturn, 1) := by decide +kernel
theorem dX12_order_0 : decode cX12_order 0 = .ok (.iload_n 1, 1) := by decide +kernel
theorem dX12_order_1 : decode cX12_order 1 = .ok (.ifCond .lt 13, 3) := by decide +kernel
theorem dX12_order_4 : decode cX12_order 4 = .ok (.iload_n 1, 1) := by decide +kernel
theorem dX12_order_5 : decode cX12_order 5 = .ok (.iconst 1, 1) := by decide +kernel
theorem dX12_order_6 : decode cX12_order 6 = .ok (.aload_n 0, 1) := by decide +kernel
theorem dX12_order_7 : decode cX12_order 7 = .ok (.getfield 217, 3) := by decide +kernel
theorem dX12_order_10 : decode cX12_order 10 = .ok (.ishl, 1) := by decide +kernel
theorem dX12_order_11 : decode cX12_order 11 = .ok (.if_icmp .lt 7, 3) := by decide +kernel
theorem dX12_order_14 : decode cX12_order 14 = .ok (.iconst 1, 1) := by decide +kernel
theorem dX12_order_15 : decode cX12_order 15 = .ok (.goto 4, 3) := by decide +kernel
theorem dX12_order_18 : decode cX12_order 18 = .ok (.iconst 0, 1) := by decide +kernel
theorem dX12_order_19 : decode cX12_order 19 = .ok (.istore_n 3, 1) := by decide +kernel
theorem dX12_order_20 : decode cX12_order 20 = .ok (.iconst 0, 1) := by decide +kernel
theorem dX12_order_21 : decode cX12_order 21 = .ok (.istore 4, 2) := by decide +kernel
theorem dX12_order_23 : decode cX12_order 23 = .ok (.iload 4, 2) := by decide +kernel
theorem dX12_order_25 : decode cX12_order 25 = .ok (.aload_n 0, 1) := by decide +kernel
theorem dX12_order_26 : decode cX12_order 26 = .ok (.getfield 217, 3) := by decide +kernel
theorem dX12_order_29 : decode cX12_order 29 = .ok (.if_icmp .ge 39, 3) := by decide +kernel
theorem dX12_order_32 : decode cX12_order 32 = .ok (.iload_n 3, 1) := by decide +kernel
theorem dX12_order_33 : decode cX12_order 33 = .ok (.ifCond .ne 35, 3) := by decide +kernel
theorem dX12_order_36 : decode cX12_order 36 = .ok (.iload_n 1, 1) := by decide +kernel
theorem dX12_order_37 : decode cX12_order 37 = .ok (.iload 4, 2) := by decide +kernel
theorem dX12_order_39 : decode cX12_order 39 = .ok (.ishr, 1) := by decide +kernel
theorem dX12_order_40 : decode cX12_order 40 = .ok (.iconst 1, 1) := by decide +kernel
theorem dX12_order_41 : decode cX12_order 41 = .ok (.iand, 1) := by decide +kernel
theorem dX12_order_42 : decode cX12_order 42 = .ok (.iconst 1, 1) := by decide +kernel
theorem dX12_order_43 : decode cX12_order 43 = .ok (.if_icmp .ne 17, 3) := by decide +kernel
theorem dX12_order_46 : decode cX12_order 46 = .ok (.aload_n 0, 1) := by decide +kernel
theorem dX12_order_47 : decode cX12_order 47 = .ok (.getfield 65, 3) := by decide +kernel
theorem dX12_order_50 : decode cX12_order 50 = .ok (.iload 4, 2) := by decide +kernel
theorem dX12_order_52 : decode cX12_order 52 = .ok (.baload, 1) := by decide +kernel
theorem dX12_order_53 : decode cX12_order 53 = .ok (.ifCond .eq 7, 3) := by decide +kernel
theorem dX12_order_56 : decode cX12_order 56 = .ok (.iconst 1, 1) := by decide +kernel
theorem dX12_order_57 : decode cX12_order 57 = .ok (.goto 4, 3) := by decide +kernel
theorem dX12_order_60 : decode cX12_order 60 = .ok (.iconst 0, 1) := by decide +kernel
theorem dX12_order_61 : decode cX12_order 61 = .ok (.istore_n 3, 1) := by decide +kernel
theorem dX12_order_62 : decode cX12_order 62 = .ok (.iinc 4 1, 3) := by decide +kernel
theorem dX12_order_65 : decode cX12_order 65 = .ok (.goto (-42), 3) := by decide +kernel
theorem dX12_order_68 : decode cX12_order 68 = .ok (.iload_n 3, 1) := by decide +kernel
theorem dX12_order_69 : decode cX12_order 69 = .ok (.ifCond .eq 9, 3) := by decide +kernel
theorem dX12_order_72 : decode cX12_order 72 = .ok (.aload_n 0, 1) := by decide +kernel
theorem dX12_order_73 : decode cX12_order 73 = .ok (.iconst (-1), 1) := by decide +kernel
theorem dX12_order_74 : decode cX12_order 74 = .ok (.invokevirtual 226, 3) := by decide +kernel
theorem dX12_order_77 : decode cX12_order 77 = .ok (.ireturn, 1) := by decide +kernel
theorem dX12_order_78 : decode cX12_order 78 = .ok (.iload_n 2, 1) := by decide +kernel
theorem dX12_order_79 : decode cX12_order 79 = .ok (.ifCond .ge 8, 3) := by decide +kernel
theorem dX12_order_82 : decode cX12_order 82 = .ok (.bipush (-4), 2) := by decide +kernel
theorem dX12_order_84 : decode cX12_order 84 = .ok (.goto 18, 3) := by decide +kernel
theorem dX12_order_87 : decode cX12_order 87 = .ok (.iload_n 1, 1) := by decide +kernel
theorem dX12_order_88 : decode cX12_order 88 = .ok (.invokestatic 391, 3) := by decide +kernel
theorem dX12_order_91 : decode cX12_order 91 = .ok (.bipush 6, 2) := by decide +kernel
theorem dX12_order_93 : decode cX12_order 93 = .ok (.if_icmp .le 8, 3) := by decide +kernel
theorem dX12_order_96 : decode cX12_order 96 = .ok (.bipush (-6), 2) := by decide +kernel
theorem dX12_order_98 : decode cX12_order 98 = .ok (.goto 4, 3) := by decide +kernel
theorem dX12_order_101 : decode cX12_order 101 = .ok (.iconst 0, 1) := by decide +kernel
theorem dX12_order_102 : decode cX12_order 102 = .ok (.istore 4, 2) := by decide +kernel
theorem dX12_order_104 : decode cX12_order 104 = .ok (.iload 4, 2) := by decide +kernel
theorem dX12_order_106 : decode cX12_order 106 = .ok (.ifCond .eq 10, 3) := by decide +kernel
theorem dX12_order_109 : decode cX12_order 109 = .ok (.aload_n 0, 1) := by decide +kernel
theorem dX12_order_110 : decode cX12_order 110 = .ok (.iload 4, 2) := by decide +kernel
theorem dX12_order_112 : decode cX12_order 112 = .ok (.invokevirtual 226, 3) := by decide +kernel
theorem dX12_order_115 : decode cX12_order 115 = .ok (.ireturn, 1) := by decide +kernel
theorem dX12_order_116 : decode cX12_order 116 = .ok (.iload_n 2, 1) := by decide +kernel
theorem dX12_order_117 : decode cX12_order 117 = .ok (.iload_n 1, 1) := by decide +kernel
theorem dX12_order_118 : decode cX12_order 118 = .ok (.invokestatic 391, 3) := by decide +kernel
theorem dX12_order_121 : decode cX12_order 121 = .ok (.if_icmp .ge 11, 3) := by decide +kernel
theorem dX12_order_124 : decode cX12_order 124 = .ok (.aload_n 0, 1) := by decide +kernel
theorem dX12_order_125 : decode cX12_order 125 = .ok (.iload_n 1, 1) := by decide +kernel
theorem dX12_order_126 : decode cX12_order 126 = .ok (.invokevirtual 397, 3) := by decide +kernel
theorem dX12_order_129 : decode cX12_order 129 = .ok (.ifCond .ne 8, 3) := by decide +kernel
theorem dX12_order_132 : decode cX12_order 132 = .ok (.bipush (-9), 2) := by decide +kernel
theorem dX12_order_134 : decode cX12_order 134 = .ok (.goto 9, 3) := by decide +kernel
theorem dX12_order_137 : decode cX12_order 137 = .ok (.aload_n 0, 1) := by decide +kernel
theorem dX12_order_138 : decode cX12_order 138 = .ok (.getfield 131, 3) := by decide +kernel
theorem dX12_order_141 : decode cX12_order 141 = .ok (.iload_n 2, 1) := by decide +kernel
theorem dX12_order_142 : decode cX12_order 142 = .ok (.iaload, 1) := by decide +kernel
theorem dX12_order_143 : decode cX12_order 143 = .ok (.ireturn, 1) := by decide +kernel
theorem dX12_findParts_0 : decode cX12_findParts 0 = .ok (.iconst 0, 1) := by decide +kernel
theorem dX12_findParts_1 : decode cX12_findParts 1 = .ok (.istore_n 1, 1) := by decide +kernel
theorem dX12_findParts_2 : decode cX12_findParts 2 = .ok (.iload_n 1, 1) := by decide +kernel
theorem dX12_findParts_3 : decode cX12_findParts 3 = .ok (.aload_n 0, 1) := by decide +kernel
theorem dX12_findParts_4 : decode cX12_findParts 4 = .ok (.getfield 210, 3) := by decide +kernel
theorem dX12_findParts_7 : decode cX12_findParts 7 = .ok (.if_icmp .ge 16, 3) := by decide +kernel
theorem dX12_findParts_10 : decode cX12_findParts 10 = .ok (.aload_n 0, 1) := by decide +kernel
theorem dX12_findParts_11 : decode cX12_findParts 11 = .ok (.getfield 138, 3) := by decide +kernel
theorem dX12_findParts_14 : decode cX12_findParts 14 = .ok (.iload_n 1, 1) := by decide +kernel
theorem dX12_findParts_15 : decode cX12_findParts 15 = .ok (.iload_n 1, 1) := by decide +kernel
theorem dX12_findParts_16 : decode cX12_findParts 16 = .ok (.iastore, 1) := by decide +kernel
theorem dX12_findParts_17 : decode cX12_findParts 17 = .ok (.iinc 1 1, 3) := by decide +kernel
theorem dX12_findParts_20 : decode cX12_findParts 20 = .ok (.goto (-18), 3) := by decide +kernel
theorem dX12_findParts_23 : decode cX12_findParts 23 = .ok (.iconst 0, 1) := by decide +kernel
theorem dX12_findParts_24 : decode cX12_findParts 24 = .ok (.istore_n 1, 1) := by decide +kernel
theorem dX12_findParts_25 : decode cX12_findParts 25 = .ok (.iload_n 1, 1) := by decide +kernel
theorem dX12_findParts_26 : decode cX12_findParts 26 = .ok (.iconst 5, 1) := by decide +kernel
theorem dX12_findParts_27 : decode cX12_findParts 27 = .ok (.if_icmp .ge 103, 3) := by decide +kernel
theorem dX12_findParts_30 : decode cX12_findParts 30 = .ok (.iconst 0, 1) := by decide +kernel
theorem dX12_findParts_31 : decode cX12_findParts 31 = .ok (.istore_n 2, 1) := by decide +kernel
theorem dX12_findParts_32 : decode cX12_findParts 32 = .ok (.iload_n 2, 1) := by decide +kernel
theorem dX12_findParts_33 : decode cX12_findParts 33 = .ok (.aload_n 0, 1) := by decide +kernel
theorem dX12_findParts_34 : decode cX12_findParts 34 = .ok (.getfield 214, 3) := by decide +kernel
theorem dX12_findParts_37 : decode cX12_findParts 37 = .ok (.if_icmp .ge 87, 3) := by decide +kernel
theorem dX12_findParts_40 : decode cX12_findParts 40 = .ok (.aload_n 0, 1) := by decide +kernel
theorem dX12_findParts_41 : decode cX12_findParts 41 = .ok (.getfield 25, 3) := by decide +kernel
theorem dX12_findParts_44 : decode cX12_findParts 44 = .ok (.iload_n 2, 1) := by decide +kernel
theorem dX12_findParts_45 : decode cX12_findParts 45 = .ok (.iaload, 1) := by decide +kernel
theorem dX12_findParts_46 : decode cX12_findParts 46 = .ok (.istore_n 3, 1) := by decide +kernel
theorem dX12_findParts_47 : decode cX12_findParts 47 = .ok (.aload_n 0, 1) := by decide +kernel
theorem dX12_findParts_48 : decode cX12_findParts 48 = .ok (.getfield 28, 3) := by decide +kernel
theorem dX12_findParts_51 : decode cX12_findParts 51 = .ok (.iload_n 2, 1) := by decide +kernel
theorem dX12_findParts_52 : decode cX12_findParts 52 = .ok (.iaload, 1) := by decide +kernel
theorem dX12_findParts_53 : decode cX12_findParts 53 = .ok (.istore 4, 2) := by decide +kernel
theorem dX12_findParts_55 : decode cX12_findParts 55 = .ok (.aload_n 0, 1) := by decide +kernel
theorem dX12_findParts_56 : decode cX12_findParts 56 = .ok (.getfield 61, 3) := by decide +kernel
theorem dX12_findParts_59 : decode cX12_findParts 59 = .ok (.iload_n 2, 1) := by decide +kernel
theorem dX12_findParts_60 : decode cX12_findParts 60 = .ok (.baload, 1) := by decide +kernel
theorem dX12_findParts_61 : decode cX12_findParts 61 = .ok (.ifCond .ne 6, 3) := by decide +kernel
theorem dX12_findParts_64 : decode cX12_findParts 64 = .ok (.goto 54, 3) := by decide +kernel
theorem dX12_findParts_67 : decode cX12_findParts 67 = .ok (.aload_n 0, 1) := by decide +kernel
theorem dX12_findParts_68 : decode cX12_findParts 68 = .ok (.getfield 138, 3) := by decide +kernel
theorem dX12_findParts_71 : decode cX12_findParts 71 = .ok (.iload_n 3, 1) := by decide +kernel
theorem dX12_findParts_72 : decode cX12_findParts 72 = .ok (.iaload, 1) := by decide +kernel
theorem dX12_findParts_73 : decode cX12_findParts 73 = .ok (.aload_n 0, 1) := by decide +kernel
theorem dX12_findParts_74 : decode cX12_findParts 74 = .ok (.getfield 138, 3) := by decide +kernel
theorem dX12_findParts_77 : decode cX12_findParts 77 = .ok (.iload 4, 2) := by decide +kernel
theorem dX12_findParts_79 : decode cX12_findParts 79 = .ok (.iaload, 1) := by decide +kernel
theorem dX12_findParts_80 : decode cX12_findParts 80 = .ok (.if_icmp .ge 12, 3) := by decide +kernel
theorem dX12_findParts_83 : decode cX12_findParts 83 = .ok (.aload_n 0, 1) := by decide +kernel
theorem dX12_findParts_84 : decode cX12_findParts 84 = .ok (.getfield 138, 3) := by decide +kernel
theorem dX12_findParts_87 : decode cX12_findParts 87 = .ok (.iload_n 3, 1) := by decide +kernel
theorem dX12_findParts_88 : decode cX12_findParts 88 = .ok (.iaload, 1) := by decide +kernel
theorem dX12_findParts_89 : decode cX12_findParts 89 = .ok (.goto 10, 3) := by decide +kernel
theorem dX12_findParts_92 : decode cX12_findParts 92 = .ok (.aload_n 0, 1) := by decide +kernel
theorem dX12_findParts_93 : decode cX12_findParts 93 = .ok (.getfield 138, 3) := by decide +kernel
theorem dX12_findParts_96 : decode cX12_findParts 96 = .ok (.iload 4, 2) := by decide +kernel
theorem dX12_findParts_98 : decode cX12_findParts 98 = .ok (.iaload, 1) := by decide +kernel
theorem dX12_findParts_99 : decode cX12_findParts 99 = .ok (.istore 5, 2) := by decide +kernel
theorem dX12_findParts_101 : decode cX12_findParts 101 = .ok (.aload_n 0, 1) := by decide +kernel
theorem dX12_findParts_102 : decode cX12_findParts 102 = .ok (.getfield 138, 3) := by decide +kernel
theorem dX12_findParts_105 : decode cX12_findParts 105 = .ok (.iload_n 3, 1) := by decide +kernel
theorem dX12_findParts_106 : decode cX12_findParts 106 = .ok (.iload 5, 2) := by decide +kernel
theorem dX12_findParts_108 : decode cX12_findParts 108 = .ok (.iastore, 1) := by decide +kernel
theorem dX12_findParts_109 : decode cX12_findParts 109 = .ok (.aload_n 0, 1) := by decide +kernel
theorem dX12_findParts_110 : decode cX12_findParts 110 = .ok (.getfield 138, 3) := by decide +kernel
theorem dX12_findParts_113 : decode cX12_findParts 113 = .ok (.iload 4, 2) := by decide +kernel
theorem dX12_findParts_115 : decode cX12_findParts 115 = .ok (.iload 5, 2) := by decide +kernel
theorem dX12_findParts_117 : decode cX12_findParts 117 = .ok (.iastore, 1) := by decide +kernel
theorem dX12_findParts_118 : decode cX12_findParts 118 = .ok (.iinc 2 1, 3) := by decide +kernel
theorem dX12_findParts_121 : decode cX12_findParts 121 = .ok (.goto (-89), 3) := by decide +kernel
theorem dX12_findParts_124 : decode cX12_findParts 124 = .ok (.iinc 1 1, 3) := by decide +kernel
theorem dX12_findParts_127 : decode cX12_findParts 127 = .ok (.goto (-102), 3) := by decide +kernel
theorem dX12_findParts_130 : decode cX12_findParts 130 = .ok (.return_, 1) := by decide +kernel
theorem dX12_speedAt_0 : decode cX12_speedAt 0 = .ok (.aload_n 0, 1) := by decide +kernel
theorem dX12_speedAt_1 : decode cX12_speedAt 1 = .ok (.getfield 141, 3) := by decide +kernel
theorem dX12_speedAt_4 : decode cX12_speedAt 4 = .ok (.iload_n 1, 1) := by decide +kernel
theorem dX12_speedAt_5 : decode cX12_speedAt 5 = .ok (.iaload, 1) := by decide +kernel
theorem dX12_speedAt_6 : decode cX12_speedAt 6 = .ok (.istore_n 3, 1) := by decide +kernel
theorem dX12_speedAt_7 : decode cX12_speedAt 7 = .ok (.iconst 0, 1) := by decide +kernel
theorem dX12_speedAt_8 : decode cX12_speedAt 8 = .ok (.istore 4, 2) := by decide +kernel
theorem dX12_speedAt_10 : decode cX12_speedAt 10 = .ok (.iload 4, 2) := by decide +kernel
theorem dX12_speedAt_12 : decode cX12_speedAt 12 = .ok (.aload_n 0, 1) := by decide +kernel
theorem dX12_speedAt_13 : decode cX12_speedAt 13 = .ok (.getfield 217, 3) := by decide +kernel
theorem dX12_speedAt_16 : decode cX12_speedAt 16 = .ok (.if_icmp .ge 48, 3) := by decide +kernel
theorem dX12_speedAt_19 : decode cX12_speedAt 19 = .ok (.iload_n 3, 1) := by decide +kernel
theorem dX12_speedAt_20 : decode cX12_speedAt 20 = .ok (.aload_n 0, 1) := by decide +kernel
theorem dX12_speedAt_21 : decode cX12_speedAt 21 = .ok (.getfield 65, 3) := by decide +kernel
theorem dX12_speedAt_24 : decode cX12_speedAt 24 = .ok (.iload 4, 2) := by decide +kernel
theorem dX12_speedAt_26 : decode cX12_speedAt 26 = .ok (.baload, 1) := by decide +kernel
theorem dX12_speedAt_27 : decode cX12_speedAt 27 = .ok (.ifCond .eq 28, 3) := by decide +kernel
theorem dX12_speedAt_30 : decode cX12_speedAt 30 = .ok (.aload_n 0, 1) := by decide +kernel
theorem dX12_speedAt_31 : decode cX12_speedAt 31 = .ok (.getfield 34, 3) := by decide +kernel
theorem dX12_speedAt_34 : decode cX12_speedAt 34 = .ok (.iload 4, 2) := by decide +kernel
theorem dX12_speedAt_36 : decode cX12_speedAt 36 = .ok (.iaload, 1) := by decide +kernel
theorem dX12_speedAt_37 : decode cX12_speedAt 37 = .ok (.iload_n 1, 1) := by decide +kernel
theorem dX12_speedAt_38 : decode cX12_speedAt 38 = .ok (.if_icmp .ne 17, 3) := by decide +kernel
theorem dX12_speedAt_41 : decode cX12_speedAt 41 = .ok (.aload_n 0, 1) := by decide +kernel
theorem dX12_speedAt_42 : decode cX12_speedAt 42 = .ok (.getfield 37, 3) := by decide +kernel
theorem dX12_speedAt_45 : decode cX12_speedAt 45 = .ok (.iconst 3, 1) := by decide +kernel
theorem dX12_speedAt_46 : decode cX12_speedAt 46 = .ok (.iload 4, 2) := by decide +kernel
theorem dX12_speedAt_48 : decode cX12_speedAt 48 = .ok (.imul, 1) := by decide +kernel
theorem dX12_speedAt_49 : decode cX12_speedAt 49 = .ok (.iload_n 2, 1) := by decide +kernel
theorem dX12_speedAt_50 : decode cX12_speedAt 50 = .ok (.iadd, 1) := by decide +kernel
theorem dX12_speedAt_51 : decode cX12_speedAt 51 = .ok (.iaload, 1) := by decide +kernel
theorem dX12_speedAt_52 : decode cX12_speedAt 52 = .ok (.goto 4, 3) := by decide +kernel
theorem dX12_speedAt_55 : decode cX12_speedAt 55 = .ok (.iconst 0, 1) := by decide +kernel
theorem dX12_speedAt_56 : decode cX12_speedAt 56 = .ok (.iadd, 1) := by decide +kernel
theorem dX12_speedAt_57 : decode cX12_speedAt 57 = .ok (.istore_n 3, 1) := by decide +kernel
theorem dX12_speedAt_58 : decode cX12_speedAt 58 = .ok (.iinc 4 1, 3) := by decide +kernel
theorem dX12_speedAt_61 : decode cX12_speedAt 61 = .ok (.goto (-51), 3) := by decide +kernel
theorem dX12_speedAt_64 : decode cX12_speedAt 64 = .ok (.iload_n 3, 1) := by decide +kernel
theorem dX12_speedAt_65 : decode cX12_speedAt 65 = .ok (.ireturn, 1) := by decide +kernel
theorem dX12_divisor_0 : decode cX12_divisor 0 = .ok (.lload_n 0, 1) := by decide +kernel
theorem dX12_divisor_1 : decode cX12_divisor 1 = .ok (.lconst 0, 1) := by decide +kernel
theorem dX12_divisor_2 : decode cX12_divisor 2 = .ok (.lcmp, 1) := by decide +kernel
theorem dX12_divisor_3 : decode cX12_divisor 3 = .ok (.ifCond .ge 8, 3) := by decide +kernel
theorem dX12_divisor_6 : decode cX12_divisor 6 = .ok (.lload_n 0, 1) := by decide +kernel
theorem dX12_divisor_7 : decode cX12_divisor 7 = .ok (.lneg, 1) := by decide +kernel
theorem dX12_divisor_8 : decode cX12_divisor 8 = .ok (.goto 4, 3) := by decide +kernel
theorem dX12_divisor_11 : decode cX12_divisor 11 = .ok (.lload_n 0, 1) := by decide +kernel
theorem dX12_divisor_12 : decode cX12_divisor 12 = .ok (.lstore 4, 2) := by decide +kernel
theorem dX12_divisor_14 : decode cX12_divisor 14 = .ok (.lload_n 2, 1) := by decide +kernel
theorem dX12_divisor_15 : decode cX12_divisor 15 = .ok (.lconst 0, 1) := by decide +kernel
theorem dX12_divisor_16 : decode cX12_divisor 16 = .ok (.lcmp, 1) := by decide +kernel
theorem dX12_divisor_17 : decode cX12_divisor 17 = .ok (.ifCond .ge 8, 3) := by decide +kernel
theorem dX12_divisor_20 : decode cX12_divisor 20 = .ok (.lload_n 2, 1) := by decide +kernel
theorem dX12_divisor_21 : decode cX12_divisor 21 = .ok (.lneg, 1) := by decide +kernel
theorem dX12_divisor_22 : decode cX12_divisor 22 = .ok (.goto 4, 3) := by decide +kernel
theorem dX12_divisor_25 : decode cX12_divisor 25 = .ok (.lload_n 2, 1) := by decide +kernel
theorem dX12_divisor_26 : decode cX12_divisor 26 = .ok (.lstore 6, 2) := by decide +kernel
theorem dX12_divisor_28 : decode cX12_divisor 28 = .ok (.lload 6, 2) := by decide +kernel
theorem dX12_divisor_30 : decode cX12_divisor 30 = .ok (.lconst 0, 1) := by decide +kernel
theorem dX12_divisor_31 : decode cX12_divisor 31 = .ok (.lcmp, 1) := by decide +kernel
theorem dX12_divisor_32 : decode cX12_divisor 32 = .ok (.ifCond .eq 21, 3) := by decide +kernel
theorem dX12_divisor_35 : decode cX12_divisor 35 = .ok (.lload 4, 2) := by decide +kernel
theorem dX12_divisor_37 : decode cX12_divisor 37 = .ok (.lload 6, 2) := by decide +kernel
theorem dX12_divisor_39 : decode cX12_divisor 39 = .ok (.lrem, 1) := by decide +kernel
theorem dX12_divisor_40 : decode cX12_divisor 40 = .ok (.lstore 8, 2) := by decide +kernel
theorem dX12_divisor_42 : decode cX12_divisor 42 = .ok (.lload 6, 2) := by decide +kernel
theorem dX12_divisor_44 : decode cX12_divisor 44 = .ok (.lstore 4, 2) := by decide +kernel
theorem dX12_divisor_46 : decode cX12_divisor 46 = .ok (.lload 8, 2) := by decide +kernel
theorem dX12_divisor_48 : decode cX12_divisor 48 = .ok (.lstore 6, 2) := by decide +kernel
theorem dX12_divisor_50 : decode cX12_divisor 50 = .ok (.goto (-22), 3) := by decide +kernel
theorem dX12_divisor_53 : decode cX12_divisor 53 = .ok (.lload 4, 2) := by decide +kernel
theorem dX12_divisor_55 : decode cX12_divisor 55 = .ok (.lreturn, 1) := by decide +kernel
theorem dX12_shortens_0 : decode cX12_shortens 0 = .ok (.lconst 0, 1) := by decide +kernel
theorem dX12_shortens_1 : decode cX12_shortens 1 = .ok (.lstore_n 2, 1) := by decide +kernel
theorem dX12_shortens_2 : decode cX12_shortens 2 = .ok (.iconst 0, 1) := by decide +kernel
theorem dX12_shortens_3 : decode cX12_shortens 3 = .ok (.istore 4, 2) := by decide +kernel
theorem dX12_shortens_5 : decode cX12_shortens 5 = .ok (.iload 4, 2) := by decide +kernel
theorem dX12_shortens_7 : decode cX12_shortens 7 = .ok (.bipush 6, 2) := by decide +kernel
theorem dX12_shortens_9 : decode cX12_shortens 9 = .ok (.if_icmp .ge 26, 3) := by decide +kernel
theorem dX12_shortens_12 : decode cX12_shortens 12 = .ok (.lload_n 2, 1) := by decide +kernel
theorem dX12_shortens_13 : decode cX12_shortens 13 = .ok (.aload_n 0, 1) := by decide +kernel
theorem dX12_shortens_14 : decode cX12_shortens 14 = .ok (.getfield 134, 3) := by decide +kernel
theorem dX12_shortens_17 : decode cX12_shortens 17 = .ok (.bipush 6, 2) := by decide +kernel
theorem dX12_shortens_19 : decode cX12_shortens 19 = .ok (.iload_n 1, 1) := by decide +kernel
theorem dX12_shortens_20 : decode cX12_shortens 20 = .ok (.imul, 1) := by decide +kernel
theorem dX12_shortens_21 : decode cX12_shortens 21 = .ok (.iload 4, 2) := by decide +kernel
theorem dX12_shortens_23 : decode cX12_shortens 23 = .ok (.iadd, 1) := by decide +kernel
theorem dX12_shortens_24 : decode cX12_shortens 24 = .ok (.laload, 1) := by decide +kernel
theorem dX12_shortens_25 : decode cX12_shortens 25 = .ok (.invokestatic 400, 3) := by decide +kernel
theorem dX12_shortens_28 : decode cX12_shortens 28 = .ok (.lstore_n 2, 1) := by decide +kernel
theorem dX12_shortens_29 : decode cX12_shortens 29 = .ok (.iinc 4 1, 3) := by decide +kernel
theorem dX12_shortens_32 : decode cX12_shortens 32 = .ok (.goto (-27), 3) := by decide +kernel
theorem dX12_shortens_35 : decode cX12_shortens 35 = .ok (.iconst 0, 1) := by decide +kernel
theorem dX12_shortens_36 : decode cX12_shortens 36 = .ok (.istore 4, 2) := by decide +kernel
theorem dX12_shortens_38 : decode cX12_shortens 38 = .ok (.iload 4, 2) := by decide +kernel
theorem dX12_shortens_40 : decode cX12_shortens 40 = .ok (.bipush 6, 2) := by decide +kernel
theorem dX12_shortens_42 : decode cX12_shortens 42 = .ok (.if_icmp .ge 31, 3) := by decide +kernel
theorem dX12_shortens_45 : decode cX12_shortens 45 = .ok (.lload_n 2, 1) := by decide +kernel
theorem dX12_shortens_46 : decode cX12_shortens 46 = .ok (.lconst 1, 1) := by decide +kernel
theorem dX12_shortens_47 : decode cX12_shortens 47 = .ok (.lcmp, 1) := by decide +kernel
theorem dX12_shortens_48 : decode cX12_shortens 48 = .ok (.ifCond .le 25, 3) := by decide +kernel
theorem dX12_shortens_51 : decode cX12_shortens 51 = .ok (.aload_n 0, 1) := by decide +kernel
theorem dX12_shortens_52 : decode cX12_shortens 52 = .ok (.getfield 134, 3) := by decide +kernel
theorem dX12_shortens_55 : decode cX12_shortens 55 = .ok (.bipush 6, 2) := by decide +kernel
theorem dX12_shortens_57 : decode cX12_shortens 57 = .ok (.iload_n 1, 1) := by decide +kernel
theorem dX12_shortens_58 : decode cX12_shortens 58 = .ok (.imul, 1) := by decide +kernel
theorem dX12_shortens_59 : decode cX12_shortens 59 = .ok (.iload 4, 2) := by decide +kernel
theorem dX12_shortens_61 : decode cX12_shortens 61 = .ok (.iadd, 1) := by decide +kernel
theorem dX12_shortens_62 : decode cX12_shortens 62 = .ok (.dup2, 1) := by decide +kernel
theorem dX12_shortens_63 : decode cX12_shortens 63 = .ok (.laload, 1) := by decide +kernel
theorem dX12_shortens_64 : decode cX12_shortens 64 = .ok (.lload_n 2, 1) := by decide +kernel
theorem dX12_shortens_65 : decode cX12_shortens 65 = .ok (.ldiv, 1) := by decide +kernel
theorem dX12_shortens_66 : decode cX12_shortens 66 = .ok (.lastore, 1) := by decide +kernel
theorem dX12_shortens_67 : decode cX12_shortens 67 = .ok (.iinc 4 1, 3) := by decide +kernel
theorem dX12_shortens_70 : decode cX12_shortens 70 = .ok (.goto (-32), 3) := by decide +kernel
theorem dX12_shortens_73 : decode cX12_shortens 73 = .ok (.return_, 1) := by decide +kernel
theorem dX12_solves_0 : decode cX12_solves 0 = .ok (.aload_n 0, 1) := by decide +kernel
theorem dX12_solves_1 : decode cX12_solves 1 = .ok (.invokevirtual 404, 3) := by decide +kernel
theorem dX12_solves_4 : decode cX12_solves 4 = .ok (.iconst 0, 1) := by decide +kernel
theorem dX12_solves_5 : decode cX12_solves 5 = .ok (.istore_n 2, 1) := by decide +kernel
theorem dX12_solves_6 : decode cX12_solves 6 = .ok (.iload_n 2, 1) := by decide +kernel
theorem dX12_solves_7 : decode cX12_solves 7 = .ok (.aload_n 0, 1) := by decide +kernel
theorem dX12_solves_8 : decode cX12_solves 8 = .ok (.getfield 210, 3) := by decide +kernel
theorem dX12_solves_11 : decode cX12_solves 11 = .ok (.if_icmp .ge 76, 3) := by decide +kernel
theorem dX12_solves_14 : decode cX12_solves 14 = .ok (.aload_n 0, 1) := by decide +kernel
theorem dX12_solves_15 : decode cX12_solves 15 = .ok (.getfield 144, 3) := by decide +kernel
theorem dX12_solves_18 : decode cX12_solves 18 = .ok (.iload_n 2, 1) := by decide +kernel
theorem dX12_solves_19 : decode cX12_solves 19 = .ok (.iconst 1, 1) := by decide +kernel
theorem dX12_solves_20 : decode cX12_solves 20 = .ok (.bastore, 1) := by decide +kernel
theorem dX12_solves_21 : decode cX12_solves 21 = .ok (.iconst 0, 1) := by decide +kernel
theorem dX12_solves_22 : decode cX12_solves 22 = .ok (.istore_n 3, 1) := by decide +kernel
theorem dX12_solves_23 : decode cX12_solves 23 = .ok (.iload_n 3, 1) := by decide +kernel
theorem dX12_solves_24 : decode cX12_solves 24 = .ok (.aload_n 0, 1) := by decide +kernel
theorem dX12_solves_25 : decode cX12_solves 25 = .ok (.getfield 210, 3) := by decide +kernel
theorem dX12_solves_28 : decode cX12_solves 28 = .ok (.if_icmp .ge 53, 3) := by decide +kernel
theorem dX12_solves_31 : decode cX12_solves 31 = .ok (.aload_n 0, 1) := by decide +kernel
theorem dX12_solves_32 : decode cX12_solves 32 = .ok (.getfield 144, 3) := by decide +kernel
theorem dX12_solves_35 : decode cX12_solves 35 = .ok (.iload_n 2, 1) := by decide +kernel
theorem dX12_solves_36 : decode cX12_solves 36 = .ok (.aload_n 0, 1) := by decide +kernel
theorem dX12_solves_37 : decode cX12_solves 37 = .ok (.getfield 144, 3) := by decide +kernel
theorem dX12_solves_40 : decode cX12_solves 40 = .ok (.iload_n 2, 1) := by decide +kernel
theorem dX12_solves_41 : decode cX12_solves 41 = .ok (.baload, 1) := by decide +kernel
theorem dX12_solves_42 : decode cX12_solves 42 = .ok (.ifCond .eq 31, 3) := by decide +kernel
theorem dX12_solves_45 : decode cX12_solves 45 = .ok (.aload_n 0, 1) := by decide +kernel
theorem dX12_solves_46 : decode cX12_solves 46 = .ok (.getfield 138, 3) := by decide +kernel
theorem dX12_solves_49 : decode cX12_solves 49 = .ok (.iload_n 3, 1) := by decide +kernel
theorem dX12_solves_50 : decode cX12_solves 50 = .ok (.iaload, 1) := by decide +kernel
theorem dX12_solves_51 : decode cX12_solves 51 = .ok (.aload_n 0, 1) := by decide +kernel
theorem dX12_solves_52 : decode cX12_solves 52 = .ok (.getfield 138, 3) := by decide +kernel
theorem dX12_solves_55 : decode cX12_solves 55 = .ok (.iload_n 2, 1) := by decide +kernel
theorem dX12_solves_56 : decode cX12_solves 56 = .ok (.iaload, 1) := by decide +kernel
theorem dX12_solves_57 : decode cX12_solves 57 = .ok (.if_icmp .ne 12, 3) := by decide +kernel
theorem dX12_solves_60 : decode cX12_solves 60 = .ok (.aload_n 0, 1) := by decide +kernel
theorem dX12_solves_61 : decode cX12_solves 61 = .ok (.iload_n 3, 1) := by decide +kernel
theorem dX12_solves_62 : decode cX12_solves 62 = .ok (.iload_n 1, 1) := by decide +kernel
theorem dX12_solves_63 : decode cX12_solves 63 = .ok (.invokevirtual 407, 3) := by decide +kernel
theorem dX12_solves_66 : decode cX12_solves 66 = .ok (.ifCond .ne 7, 3) := by decide +kernel
theorem dX12_solves_69 : decode cX12_solves 69 = .ok (.iconst 1, 1) := by decide +kernel
theorem dX12_solves_70 : decode cX12_solves 70 = .ok (.goto 4, 3) := by decide +kernel
theorem dX12_solves_73 : decode cX12_solves 73 = .ok (.iconst 0, 1) := by decide +kernel
theorem dX12_solves_74 : decode cX12_solves 74 = .ok (.bastore, 1) := by decide +kernel
theorem dX12_solves_75 : decode cX12_solves 75 = .ok (.iinc 3 1, 3) := by decide +kernel
theorem dX12_solves_78 : decode cX12_solves 78 = .ok (.goto (-55), 3) := by decide +kernel
theorem dX12_solves_81 : decode cX12_solves 81 = .ok (.iinc 2 1, 3) := by decide +kernel
theorem dX12_solves_84 : decode cX12_solves 84 = .ok (.goto (-78), 3) := by decide +kernel
theorem dX12_solves_87 : decode cX12_solves 87 = .ok (.iconst 0, 1) := by decide +kernel
theorem dX12_solves_88 : decode cX12_solves 88 = .ok (.istore_n 2, 1) := by decide +kernel
theorem dX12_solves_89 : decode cX12_solves 89 = .ok (.iload_n 2, 1) := by decide +kernel
theorem dX12_solves_90 : decode cX12_solves 90 = .ok (.bipush 30, 2) := by decide +kernel
theorem dX12_solves_92 : decode cX12_solves 92 = .ok (.if_icmp .ge 16, 3) := by decide +kernel
theorem dX12_solves_95 : decode cX12_solves 95 = .ok (.aload_n 0, 1) := by decide +kernel
theorem dX12_solves_96 : decode cX12_solves 96 = .ok (.getfield 134, 3) := by decide +kernel
theorem dX12_solves_99 : decode cX12_solves 99 = .ok (.iload_n 2, 1) := by decide +kernel
theorem dX12_solves_100 : decode cX12_solves 100 = .ok (.lconst 0, 1) := by decide +kernel
theorem dX12_solves_101 : decode cX12_solves 101 = .ok (.lastore, 1) := by decide +kernel
theorem dX12_solves_102 : decode cX12_solves 102 = .ok (.iinc 2 1, 3) := by decide +kernel
theorem dX12_solves_105 : decode cX12_solves 105 = .ok (.goto (-16), 3) := by decide +kernel
theorem dX12_solves_108 : decode cX12_solves 108 = .ok (.iconst 0, 1) := by decide +kernel
theorem dX12_solves_109 : decode cX12_solves 109 = .ok (.istore_n 2, 1) := by decide +kernel
theorem dX12_solves_110 : decode cX12_solves 110 = .ok (.iload_n 2, 1) := by decide +kernel
theorem dX12_solves_111 : decode cX12_solves 111 = .ok (.aload_n 0, 1) := by decide +kernel
theorem dX12_solves_112 : decode cX12_solves 112 = .ok (.getfield 210, 3) := by decide +kernel
theorem dX12_solves_115 : decode cX12_solves 115 = .ok (.if_icmp .ge 75, 3) := by decide +kernel
theorem dX12_solves_118 : decode cX12_solves 118 = .ok (.aload_n 0, 1) := by decide +kernel
theorem dX12_solves_119 : decode cX12_solves 119 = .ok (.getfield 134, 3) := by decide +kernel
theorem dX12_solves_122 : decode cX12_solves 122 = .ok (.bipush 6, 2) := by decide +kernel
theorem dX12_solves_124 : decode cX12_solves 124 = .ok (.iload_n 2, 1) := by decide +kernel
theorem dX12_solves_125 : decode cX12_solves 125 = .ok (.imul, 1) := by decide +kernel
theorem dX12_solves_126 : decode cX12_solves 126 = .ok (.iload_n 2, 1) := by decide +kernel
theorem dX12_solves_127 : decode cX12_solves 127 = .ok (.iadd, 1) := by decide +kernel
theorem dX12_solves_128 : decode cX12_solves 128 = .ok (.aload_n 0, 1) := by decide +kernel
theorem dX12_solves_129 : decode cX12_solves 129 = .ok (.getfield 144, 3) := by decide +kernel
theorem dX12_solves_132 : decode cX12_solves 132 = .ok (.iload_n 2, 1) := by decide +kernel
theorem dX12_solves_133 : decode cX12_solves 133 = .ok (.baload, 1) := by decide +kernel
theorem dX12_solves_134 : decode cX12_solves 134 = .ok (.ifCond .eq 7, 3) := by decide +kernel
theorem dX12_solves_137 : decode cX12_solves 137 = .ok (.lconst 1, 1) := by decide +kernel
theorem dX12_solves_138 : decode cX12_solves 138 = .ok (.goto 10, 3) := by decide +kernel
theorem dX12_solves_141 : decode cX12_solves 141 = .ok (.aload_n 0, 1) := by decide +kernel
theorem dX12_solves_142 : decode cX12_solves 142 = .ok (.iload_n 2, 1) := by decide +kernel
theorem dX12_solves_143 : decode cX12_solves 143 = .ok (.iload_n 1, 1) := by decide +kernel
theorem dX12_solves_144 : decode cX12_solves 144 = .ok (.invokevirtual 407, 3) := by decide +kernel
theorem dX12_solves_147 : decode cX12_solves 147 = .ok (.i2l, 1) := by decide +kernel
theorem dX12_solves_148 : decode cX12_solves 148 = .ok (.lastore, 1) := by decide +kernel
theorem dX12_solves_149 : decode cX12_solves 149 = .ok (.aload_n 0, 1) := by decide +kernel
theorem dX12_solves_150 : decode cX12_solves 150 = .ok (.getfield 134, 3) := by decide +kernel
theorem dX12_solves_153 : decode cX12_solves 153 = .ok (.bipush 6, 2) := by decide +kernel
theorem dX12_solves_155 : decode cX12_solves 155 = .ok (.iload_n 2, 1) := by decide +kernel
theorem dX12_solves_156 : decode cX12_solves 156 = .ok (.imul, 1) := by decide +kernel
theorem dX12_solves_157 : decode cX12_solves 157 = .ok (.iconst 5, 1) := by decide +kernel
theorem dX12_solves_158 : decode cX12_solves 158 = .ok (.iadd, 1) := by decide +kernel
theorem dX12_solves_159 : decode cX12_solves 159 = .ok (.aload_n 0, 1) := by decide +kernel
theorem dX12_solves_160 : decode cX12_solves 160 = .ok (.getfield 144, 3) := by decide +kernel
theorem dX12_solves_163 : decode cX12_solves 163 = .ok (.iload_n 2, 1) := by decide +kernel
theorem dX12_solves_164 : decode cX12_solves 164 = .ok (.baload, 1) := by decide +kernel
theorem dX12_solves_165 : decode cX12_solves 165 = .ok (.ifCond .eq 7, 3) := by decide +kernel
theorem dX12_solves_168 : decode cX12_solves 168 = .ok (.lconst 0, 1) := by decide +kernel
theorem dX12_solves_169 : decode cX12_solves 169 = .ok (.goto 14, 3) := by decide +kernel
theorem dX12_solves_172 : decode cX12_solves 172 = .ok (.aload_n 0, 1) := by decide +kernel
theorem dX12_solves_173 : decode cX12_solves 173 = .ok (.getfield 43, 3) := by decide +kernel
theorem dX12_solves_176 : decode cX12_solves 176 = .ok (.iconst 3, 1) := by decide +kernel
theorem dX12_solves_177 : decode cX12_solves 177 = .ok (.iload_n 2, 1) := by decide +kernel
theorem dX12_solves_178 : decode cX12_solves 178 = .ok (.imul, 1) := by decide +kernel
theorem dX12_solves_179 : decode cX12_solves 179 = .ok (.iload_n 1, 1) := by decide +kernel
theorem dX12_solves_180 : decode cX12_solves 180 = .ok (.iadd, 1) := by decide +kernel
theorem dX12_solves_181 : decode cX12_solves 181 = .ok (.iaload, 1) := by decide +kernel
theorem dX12_solves_182 : decode cX12_solves 182 = .ok (.i2l, 1) := by decide +kernel
theorem dX12_solves_183 : decode cX12_solves 183 = .ok (.lastore, 1) := by decide +kernel
theorem dX12_solves_184 : decode cX12_solves 184 = .ok (.iinc 2 1, 3) := by decide +kernel
theorem dX12_solves_187 : decode cX12_solves 187 = .ok (.goto (-77), 3) := by decide +kernel
theorem dX12_solves_190 : decode cX12_solves 190 = .ok (.iconst 0, 1) := by decide +kernel
theorem dX12_solves_191 : decode cX12_solves 191 = .ok (.istore_n 2, 1) := by decide +kernel
theorem dX12_solves_192 : decode cX12_solves 192 = .ok (.iload_n 2, 1) := by decide +kernel
theorem dX12_solves_193 : decode cX12_solves 193 = .ok (.aload_n 0, 1) := by decide +kernel
theorem dX12_solves_194 : decode cX12_solves 194 = .ok (.getfield 214, 3) := by decide +kernel
theorem dX12_solves_197 : decode cX12_solves 197 = .ok (.if_icmp .ge 133, 3) := by decide +kernel
theorem dX12_solves_200 : decode cX12_solves 200 = .ok (.aload_n 0, 1) := by decide +kernel
theorem dX12_solves_201 : decode cX12_solves 201 = .ok (.getfield 25, 3) := by decide +kernel
theorem dX12_solves_204 : decode cX12_solves 204 = .ok (.iload_n 2, 1) := by decide +kernel
theorem dX12_solves_205 : decode cX12_solves 205 = .ok (.iaload, 1) := by decide +kernel
theorem dX12_solves_206 : decode cX12_solves 206 = .ok (.istore_n 3, 1) := by decide +kernel
theorem dX12_solves_207 : decode cX12_solves 207 = .ok (.aload_n 0, 1) := by decide +kernel
theorem dX12_solves_208 : decode cX12_solves 208 = .ok (.getfield 28, 3) := by decide +kernel
theorem dX12_solves_211 : decode cX12_solves 211 = .ok (.iload_n 2, 1) := by decide +kernel
theorem dX12_solves_212 : decode cX12_solves 212 = .ok (.iaload, 1) := by decide +kernel
theorem dX12_solves_213 : decode cX12_solves 213 = .ok (.istore 4, 2) := by decide +kernel
theorem dX12_solves_215 : decode cX12_solves 215 = .ok (.aload_n 0, 1) := by decide +kernel
theorem dX12_solves_216 : decode cX12_solves 216 = .ok (.getfield 61, 3) := by decide +kernel
theorem dX12_solves_219 : decode cX12_solves 219 = .ok (.iload_n 2, 1) := by decide +kernel
theorem dX12_solves_220 : decode cX12_solves 220 = .ok (.baload, 1) := by decide +kernel
theorem dX12_solves_221 : decode cX12_solves 221 = .ok (.ifCond .eq 103, 3) := by decide +kernel
theorem dX12_solves_224 : decode cX12_solves 224 = .ok (.aload_n 0, 1) := by decide +kernel
theorem dX12_solves_225 : decode cX12_solves 225 = .ok (.getfield 144, 3) := by decide +kernel
theorem dX12_solves_228 : decode cX12_solves 228 = .ok (.iload_n 3, 1) := by decide +kernel
theorem dX12_solves_229 : decode cX12_solves 229 = .ok (.baload, 1) := by decide +kernel
theorem dX12_solves_230 : decode cX12_solves 230 = .ok (.ifCond .eq 6, 3) := by decide +kernel
theorem dX12_solves_233 : decode cX12_solves 233 = .ok (.goto 91, 3) := by decide +kernel
theorem dX12_solves_236 : decode cX12_solves 236 = .ok (.aload_n 0, 1) := by decide +kernel
theorem dX12_solves_237 : decode cX12_solves 237 = .ok (.getfield 134, 3) := by decide +kernel
theorem dX12_solves_240 : decode cX12_solves 240 = .ok (.bipush 6, 2) := by decide +kernel
theorem dX12_solves_242 : decode cX12_solves 242 = .ok (.iload_n 3, 1) := by decide +kernel
theorem dX12_solves_243 : decode cX12_solves 243 = .ok (.imul, 1) := by decide +kernel
theorem dX12_solves_244 : decode cX12_solves 244 = .ok (.iload_n 3, 1) := by decide +kernel
theorem dX12_solves_245 : decode cX12_solves 245 = .ok (.iadd, 1) := by decide +kernel
theorem dX12_solves_246 : decode cX12_solves 246 = .ok (.dup2, 1) := by decide +kernel
theorem dX12_solves_247 : decode cX12_solves 247 = .ok (.laload, 1) := by decide +kernel
theorem dX12_solves_248 : decode cX12_solves 248 = .ok (.aload_n 0, 1) := by decide +kernel
theorem dX12_solves_249 : decode cX12_solves 249 = .ok (.getfield 31, 3) := by decide +kernel
theorem dX12_solves_252 : decode cX12_solves 252 = .ok (.iload_n 2, 1) := by decide +kernel
theorem dX12_solves_253 : decode cX12_solves 253 = .ok (.iaload, 1) := by decide +kernel
theorem dX12_solves_254 : decode cX12_solves 254 = .ok (.i2l, 1) := by decide +kernel
theorem dX12_solves_255 : decode cX12_solves 255 = .ok (.ladd, 1) := by decide +kernel
theorem dX12_solves_256 : decode cX12_solves 256 = .ok (.lastore, 1) := by decide +kernel
theorem dX12_solves_257 : decode cX12_solves 257 = .ok (.aload_n 0, 1) := by decide +kernel
theorem dX12_solves_258 : decode cX12_solves 258 = .ok (.getfield 134, 3) := by decide +kernel
theorem dX12_solves_261 : decode cX12_solves 261 = .ok (.bipush 6, 2) := by decide +kernel
theorem dX12_solves_263 : decode cX12_solves 263 = .ok (.iload_n 3, 1) := by decide +kernel
theorem dX12_solves_264 : decode cX12_solves 264 = .ok (.imul, 1) := by decide +kernel
theorem dX12_solves_265 : decode cX12_solves 265 = .ok (.iload 4, 2) := by decide +kernel
theorem dX12_solves_267 : decode cX12_solves 267 = .ok (.iadd, 1) := by decide +kernel
theorem dX12_solves_268 : decode cX12_solves 268 = .ok (.dup2, 1) := by decide +kernel
theorem dX12_solves_269 : decode cX12_solves 269 = .ok (.laload, 1) := by decide +kernel
theorem dX12_solves_270 : decode cX12_solves 270 = .ok (.aload_n 0, 1) := by decide +kernel
theorem dX12_solves_271 : decode cX12_solves 271 = .ok (.getfield 31, 3) := by decide +kernel
theorem dX12_solves_274 : decode cX12_solves 274 = .ok (.iload_n 2, 1) := by decide +kernel
theorem dX12_solves_275 : decode cX12_solves 275 = .ok (.iaload, 1) := by decide +kernel
theorem dX12_solves_276 : decode cX12_solves 276 = .ok (.i2l, 1) := by decide +kernel
theorem dX12_solves_277 : decode cX12_solves 277 = .ok (.lsub, 1) := by decide +kernel
theorem dX12_solves_278 : decode cX12_solves 278 = .ok (.lastore, 1) := by decide +kernel
theorem dX12_solves_279 : decode cX12_solves 279 = .ok (.aload_n 0, 1) := by decide +kernel
theorem dX12_solves_280 : decode cX12_solves 280 = .ok (.getfield 134, 3) := by decide +kernel
theorem dX12_solves_283 : decode cX12_solves 283 = .ok (.bipush 6, 2) := by decide +kernel
theorem dX12_solves_285 : decode cX12_solves 285 = .ok (.iload 4, 2) := by decide +kernel
theorem dX12_solves_287 : decode cX12_solves 287 = .ok (.imul, 1) := by decide +kernel
theorem dX12_solves_288 : decode cX12_solves 288 = .ok (.iload 4, 2) := by decide +kernel
theorem dX12_solves_290 : decode cX12_solves 290 = .ok (.iadd, 1) := by decide +kernel
theorem dX12_solves_291 : decode cX12_solves 291 = .ok (.dup2, 1) := by decide +kernel
theorem dX12_solves_292 : decode cX12_solves 292 = .ok (.laload, 1) := by decide +kernel
theorem dX12_solves_293 : decode cX12_solves 293 = .ok (.aload_n 0, 1) := by decide +kernel
theorem dX12_solves_294 : decode cX12_solves 294 = .ok (.getfield 31, 3) := by decide +kernel
theorem dX12_solves_297 : decode cX12_solves 297 = .ok (.iload_n 2, 1) := by decide +kernel
theorem dX12_solves_298 : decode cX12_solves 298 = .ok (.iaload, 1) := by decide +kernel
theorem dX12_solves_299 : decode cX12_solves 299 = .ok (.i2l, 1) := by decide +kernel
theorem dX12_solves_300 : decode cX12_solves 300 = .ok (.ladd, 1) := by decide +kernel
theorem dX12_solves_301 : decode cX12_solves 301 = .ok (.lastore, 1) := by decide +kernel
theorem dX12_solves_302 : decode cX12_solves 302 = .ok (.aload_n 0, 1) := by decide +kernel
theorem dX12_solves_303 : decode cX12_solves 303 = .ok (.getfield 134, 3) := by decide +kernel
theorem dX12_solves_306 : decode cX12_solves 306 = .ok (.bipush 6, 2) := by decide +kernel
theorem dX12_solves_308 : decode cX12_solves 308 = .ok (.iload 4, 2) := by decide +kernel
theorem dX12_solves_310 : decode cX12_solves 310 = .ok (.imul, 1) := by decide +kernel
theorem dX12_solves_311 : decode cX12_solves 311 = .ok (.iload_n 3, 1) := by decide +kernel
theorem dX12_solves_312 : decode cX12_solves 312 = .ok (.iadd, 1) := by decide +kernel
theorem dX12_solves_313 : decode cX12_solves 313 = .ok (.dup2, 1) := by decide +kernel
theorem dX12_solves_314 : decode cX12_solves 314 = .ok (.laload, 1) := by decide +kernel
theorem dX12_solves_315 : decode cX12_solves 315 = .ok (.aload_n 0, 1) := by decide +kernel
theorem dX12_solves_316 : decode cX12_solves 316 = .ok (.getfield 31, 3) := by decide +kernel
theorem dX12_solves_319 : decode cX12_solves 319 = .ok (.iload_n 2, 1) := by decide +kernel
theorem dX12_solves_320 : decode cX12_solves 320 = .ok (.iaload, 1) := by decide +kernel
theorem dX12_solves_321 : decode cX12_solves 321 = .ok (.i2l, 1) := by decide +kernel
theorem dX12_solves_322 : decode cX12_solves 322 = .ok (.lsub, 1) := by decide +kernel
theorem dX12_solves_323 : decode cX12_solves 323 = .ok (.lastore, 1) := by decide +kernel
theorem dX12_solves_324 : decode cX12_solves 324 = .ok (.iinc 2 1, 3) := by decide +kernel
theorem dX12_solves_327 : decode cX12_solves 327 = .ok (.goto (-135), 3) := by decide +kernel
theorem dX12_solves_330 : decode cX12_solves 330 = .ok (.iconst 0, 1) := by decide +kernel
theorem dX12_solves_331 : decode cX12_solves 331 = .ok (.istore_n 2, 1) := by decide +kernel
theorem dX12_solves_332 : decode cX12_solves 332 = .ok (.iload_n 2, 1) := by decide +kernel
theorem dX12_solves_333 : decode cX12_solves 333 = .ok (.aload_n 0, 1) := by decide +kernel
theorem dX12_solves_334 : decode cX12_solves 334 = .ok (.getfield 210, 3) := by decide +kernel
theorem dX12_solves_337 : decode cX12_solves 337 = .ok (.if_icmp .ge 130, 3) := by decide +kernel
theorem dX12_solves_340 : decode cX12_solves 340 = .ok (.iconst 0, 1) := by decide +kernel
theorem dX12_solves_341 : decode cX12_solves 341 = .ok (.istore_n 3, 1) := by decide +kernel
theorem dX12_solves_342 : decode cX12_solves 342 = .ok (.iload_n 3, 1) := by decide +kernel
theorem dX12_solves_343 : decode cX12_solves 343 = .ok (.aload_n 0, 1) := by decide +kernel
theorem dX12_solves_344 : decode cX12_solves 344 = .ok (.getfield 210, 3) := by decide +kernel
theorem dX12_solves_347 : decode cX12_solves 347 = .ok (.if_icmp .ge 114, 3) := by decide +kernel
theorem dX12_solves_350 : decode cX12_solves 350 = .ok (.aload_n 0, 1) := by decide +kernel
theorem dX12_solves_351 : decode cX12_solves 351 = .ok (.getfield 134, 3) := by decide +kernel
theorem dX12_solves_354 : decode cX12_solves 354 = .ok (.bipush 6, 2) := by decide +kernel
theorem dX12_solves_356 : decode cX12_solves 356 = .ok (.iload_n 3, 1) := by decide +kernel
theorem dX12_solves_357 : decode cX12_solves 357 = .ok (.imul, 1) := by decide +kernel
theorem dX12_solves_358 : decode cX12_solves 358 = .ok (.iload_n 2, 1) := by decide +kernel
theorem dX12_solves_359 : decode cX12_solves 359 = .ok (.iadd, 1) := by decide +kernel
theorem dX12_solves_360 : decode cX12_solves 360 = .ok (.laload, 1) := by decide +kernel
theorem dX12_solves_361 : decode cX12_solves 361 = .ok (.lstore 4, 2) := by decide +kernel
theorem dX12_solves_363 : decode cX12_solves 363 = .ok (.aload_n 0, 1) := by decide +kernel
theorem dX12_solves_364 : decode cX12_solves 364 = .ok (.getfield 134, 3) := by decide +kernel
theorem dX12_solves_367 : decode cX12_solves 367 = .ok (.bipush 6, 2) := by decide +kernel
theorem dX12_solves_369 : decode cX12_solves 369 = .ok (.iload_n 2, 1) := by decide +kernel
theorem dX12_solves_370 : decode cX12_solves 370 = .ok (.imul, 1) := by decide +kernel
theorem dX12_solves_371 : decode cX12_solves 371 = .ok (.iload_n 2, 1) := by decide +kernel
theorem dX12_solves_372 : decode cX12_solves 372 = .ok (.iadd, 1) := by decide +kernel
theorem dX12_solves_373 : decode cX12_solves 373 = .ok (.laload, 1) := by decide +kernel
theorem dX12_solves_374 : decode cX12_solves 374 = .ok (.lstore 6, 2) := by decide +kernel
theorem dX12_solves_376 : decode cX12_solves 376 = .ok (.iload_n 3, 1) := by decide +kernel
theorem dX12_solves_377 : decode cX12_solves 377 = .ok (.iload_n 2, 1) := by decide +kernel
theorem dX12_solves_378 : decode cX12_solves 378 = .ok (.if_icmp .eq 77, 3) := by decide +kernel
theorem dX12_solves_381 : decode cX12_solves 381 = .ok (.lload 4, 2) := by decide +kernel
theorem dX12_solves_383 : decode cX12_solves 383 = .ok (.lconst 0, 1) := by decide +kernel
theorem dX12_solves_384 : decode cX12_solves 384 = .ok (.lcmp, 1) := by decide +kernel
theorem dX12_solves_385 : decode cX12_solves 385 = .ok (.ifCond .ne 6, 3) := by decide +kernel
theorem dX12_solves_388 : decode cX12_solves 388 = .ok (.goto 67, 3) := by decide +kernel
theorem dX12_solves_391 : decode cX12_solves 391 = .ok (.iconst 0, 1) := by decide +kernel
theorem dX12_solves_392 : decode cX12_solves 392 = .ok (.istore 8, 2) := by decide +kernel
theorem dX12_solves_394 : decode cX12_solves 394 = .ok (.iload 8, 2) := by decide +kernel
theorem dX12_solves_396 : decode cX12_solves 396 = .ok (.bipush 6, 2) := by decide +kernel
theorem dX12_solves_398 : decode cX12_solves 398 = .ok (.if_icmp .ge 52, 3) := by decide +kernel
theorem dX12_solves_401 : decode cX12_solves 401 = .ok (.aload_n 0, 1) := by decide +kernel
theorem dX12_solves_402 : decode cX12_solves 402 = .ok (.getfield 134, 3) := by decide +kernel
theorem dX12_solves_405 : decode cX12_solves 405 = .ok (.bipush 6, 2) := by decide +kernel
theorem dX12_solves_407 : decode cX12_solves 407 = .ok (.iload_n 3, 1) := by decide +kernel
theorem dX12_solves_408 : decode cX12_solves 408 = .ok (.imul, 1) := by decide +kernel
theorem dX12_solves_409 : decode cX12_solves 409 = .ok (.iload 8, 2) := by decide +kernel
theorem dX12_solves_411 : decode cX12_solves 411 = .ok (.iadd, 1) := by decide +kernel
theorem dX12_solves_412 : decode cX12_solves 412 = .ok (.aload_n 0, 1) := by decide +kernel
theorem dX12_solves_413 : decode cX12_solves 413 = .ok (.getfield 134, 3) := by decide +kernel
theorem dX12_solves_416 : decode cX12_solves 416 = .ok (.bipush 6, 2) := by decide +kernel
theorem dX12_solves_418 : decode cX12_solves 418 = .ok (.iload_n 3, 1) := by decide +kernel
theorem dX12_solves_419 : decode cX12_solves 419 = .ok (.imul, 1) := by decide +kernel
theorem dX12_solves_420 : decode cX12_solves 420 = .ok (.iload 8, 2) := by decide +kernel
theorem dX12_solves_422 : decode cX12_solves 422 = .ok (.iadd, 1) := by decide +kernel
theorem dX12_solves_423 : decode cX12_solves 423 = .ok (.laload, 1) := by decide +kernel
theorem dX12_solves_424 : decode cX12_solves 424 = .ok (.lload 6, 2) := by decide +kernel
theorem dX12_solves_426 : decode cX12_solves 426 = .ok (.lmul, 1) := by decide +kernel
theorem dX12_solves_427 : decode cX12_solves 427 = .ok (.aload_n 0, 1) := by decide +kernel
theorem dX12_solves_428 : decode cX12_solves 428 = .ok (.getfield 134, 3) := by decide +kernel
theorem dX12_solves_431 : decode cX12_solves 431 = .ok (.bipush 6, 2) := by decide +kernel
theorem dX12_solves_433 : decode cX12_solves 433 = .ok (.iload_n 2, 1) := by decide +kernel
theorem dX12_solves_434 : decode cX12_solves 434 = .ok (.imul, 1) := by decide +kernel
theorem dX12_solves_435 : decode cX12_solves 435 = .ok (.iload 8, 2) := by decide +kernel
theorem dX12_solves_437 : decode cX12_solves 437 = .ok (.iadd, 1) := by decide +kernel
theorem dX12_solves_438 : decode cX12_solves 438 = .ok (.laload, 1) := by decide +kernel
theorem dX12_solves_439 : decode cX12_solves 439 = .ok (.lload 4, 2) := by decide +kernel
theorem dX12_solves_441 : decode cX12_solves 441 = .ok (.lmul, 1) := by decide +kernel
theorem dX12_solves_442 : decode cX12_solves 442 = .ok (.lsub, 1) := by decide +kernel
theorem dX12_solves_443 : decode cX12_solves 443 = .ok (.lastore, 1) := by decide +kernel
theorem dX12_solves_444 : decode cX12_solves 444 = .ok (.iinc 8 1, 3) := by decide +kernel
theorem dX12_solves_447 : decode cX12_solves 447 = .ok (.goto (-53), 3) := by decide +kernel
theorem dX12_solves_450 : decode cX12_solves 450 = .ok (.aload_n 0, 1) := by decide +kernel
theorem dX12_solves_451 : decode cX12_solves 451 = .ok (.iload_n 3, 1) := by decide +kernel
theorem dX12_solves_452 : decode cX12_solves 452 = .ok (.invokevirtual 410, 3) := by decide +kernel
theorem dX12_solves_455 : decode cX12_solves 455 = .ok (.iinc 3 1, 3) := by decide +kernel
theorem dX12_solves_458 : decode cX12_solves 458 = .ok (.goto (-116), 3) := by decide +kernel
theorem dX12_solves_461 : decode cX12_solves 461 = .ok (.iinc 2 1, 3) := by decide +kernel
theorem dX12_solves_464 : decode cX12_solves 464 = .ok (.goto (-132), 3) := by decide +kernel
theorem dX12_solves_467 : decode cX12_solves 467 = .ok (.return_, 1) := by decide +kernel
theorem dX12_rest_0 : decode cX12_rest 0 = .ok (.aload_n 0, 1) := by decide +kernel
theorem dX12_rest_1 : decode cX12_rest 1 = .ok (.iload_n 1, 1) := by decide +kernel
theorem dX12_rest_2 : decode cX12_rest 2 = .ok (.invokevirtual 238, 3) := by decide +kernel
theorem dX12_rest_5 : decode cX12_rest 5 = .ok (.ifCond .eq 10, 3) := by decide +kernel
theorem dX12_rest_8 : decode cX12_rest 8 = .ok (.iload_n 2, 1) := by decide +kernel
theorem dX12_rest_9 : decode cX12_rest 9 = .ok (.invokestatic 244, 3) := by decide +kernel
theorem dX12_rest_12 : decode cX12_rest 12 = .ok (.ifCond .ne 10, 3) := by decide +kernel
theorem dX12_rest_15 : decode cX12_rest 15 = .ok (.aload_n 0, 1) := by decide +kernel
theorem dX12_rest_16 : decode cX12_rest 16 = .ok (.iconst (-1), 1) := by decide +kernel
theorem dX12_rest_17 : decode cX12_rest 17 = .ok (.invokevirtual 226, 3) := by decide +kernel
theorem dX12_rest_20 : decode cX12_rest 20 = .ok (.i2l, 1) := by decide +kernel
theorem dX12_rest_21 : decode cX12_rest 21 = .ok (.lreturn, 1) := by decide +kernel
theorem dX12_rest_22 : decode cX12_rest 22 = .ok (.iload_n 3, 1) := by decide +kernel
theorem dX12_rest_23 : decode cX12_rest 23 = .ok (.i2l, 1) := by decide +kernel
theorem dX12_rest_24 : decode cX12_rest 24 = .ok (.lconst 0, 1) := by decide +kernel
theorem dX12_rest_25 : decode cX12_rest 25 = .ok (.lconst 1, 1) := by decide +kernel
theorem dX12_rest_26 : decode cX12_rest 26 = .ok (.invokestatic 222, 3) := by decide +kernel
theorem dX12_rest_29 : decode cX12_rest 29 = .ok (.ifCond .ne 11, 3) := by decide +kernel
theorem dX12_rest_32 : decode cX12_rest 32 = .ok (.aload_n 0, 1) := by decide +kernel
theorem dX12_rest_33 : decode cX12_rest 33 = .ok (.bipush (-2), 2) := by decide +kernel
theorem dX12_rest_35 : decode cX12_rest 35 = .ok (.invokevirtual 226, 3) := by decide +kernel
theorem dX12_rest_38 : decode cX12_rest 38 = .ok (.i2l, 1) := by decide +kernel
theorem dX12_rest_39 : decode cX12_rest 39 = .ok (.lreturn, 1) := by decide +kernel
theorem dX12_rest_40 : decode cX12_rest 40 = .ok (.iconst 0, 1) := by decide +kernel
theorem dX12_rest_41 : decode cX12_rest 41 = .ok (.istore 4, 2) := by decide +kernel
theorem dX12_rest_43 : decode cX12_rest 43 = .ok (.iload 4, 2) := by decide +kernel
theorem dX12_rest_45 : decode cX12_rest 45 = .ok (.iconst 5, 1) := by decide +kernel
theorem dX12_rest_46 : decode cX12_rest 46 = .ok (.if_icmp .ge 17, 3) := by decide +kernel
theorem dX12_rest_49 : decode cX12_rest 49 = .ok (.aload_n 0, 1) := by decide +kernel
theorem dX12_rest_50 : decode cX12_rest 50 = .ok (.getfield 141, 3) := by decide +kernel
theorem dX12_rest_53 : decode cX12_rest 53 = .ok (.iload 4, 2) := by decide +kernel
theorem dX12_rest_55 : decode cX12_rest 55 = .ok (.iconst 0, 1) := by decide +kernel
theorem dX12_rest_56 : decode cX12_rest 56 = .ok (.iastore, 1) := by decide +kernel
theorem dX12_rest_57 : decode cX12_rest 57 = .ok (.iinc 4 1, 3) := by decide +kernel
theorem dX12_rest_60 : decode cX12_rest 60 = .ok (.goto (-17), 3) := by decide +kernel
theorem dX12_rest_63 : decode cX12_rest 63 = .ok (.aload_n 0, 1) := by decide +kernel
theorem dX12_rest_64 : decode cX12_rest 64 = .ok (.iload_n 2, 1) := by decide +kernel
theorem dX12_rest_65 : decode cX12_rest 65 = .ok (.invokevirtual 413, 3) := by decide +kernel
theorem dX12_rest_68 : decode cX12_rest 68 = .ok (.aload_n 0, 1) := by decide +kernel
theorem dX12_rest_69 : decode cX12_rest 69 = .ok (.getfield 144, 3) := by decide +kernel
theorem dX12_rest_72 : decode cX12_rest 72 = .ok (.iload_n 1, 1) := by decide +kernel
theorem dX12_rest_73 : decode cX12_rest 73 = .ok (.baload, 1) := by decide +kernel
theorem dX12_rest_74 : decode cX12_rest 74 = .ok (.ifCond .eq 7, 3) := by decide +kernel
theorem dX12_rest_77 : decode cX12_rest 77 = .ok (.ldc2_w 416, 3) := by decide +kernel
theorem dX12_rest_80 : decode cX12_rest 80 = .ok (.lreturn, 1) := by decide +kernel
theorem dX12_rest_81 : decode cX12_rest 81 = .ok (.aload_n 0, 1) := by decide +kernel
theorem dX12_rest_82 : decode cX12_rest 82 = .ok (.getfield 134, 3) := by decide +kernel
theorem dX12_rest_85 : decode cX12_rest 85 = .ok (.bipush 6, 2) := by decide +kernel
theorem dX12_rest_87 : decode cX12_rest 87 = .ok (.iload_n 1, 1) := by decide +kernel
theorem dX12_rest_88 : decode cX12_rest 88 = .ok (.imul, 1) := by decide +kernel
theorem dX12_rest_89 : decode cX12_rest 89 = .ok (.iconst 5, 1) := by decide +kernel
theorem dX12_rest_90 : decode cX12_rest 90 = .ok (.iadd, 1) := by decide +kernel
theorem dX12_rest_91 : decode cX12_rest 91 = .ok (.laload, 1) := by decide +kernel
theorem dX12_rest_92 : decode cX12_rest 92 = .ok (.lstore 4, 2) := by decide +kernel
theorem dX12_rest_94 : decode cX12_rest 94 = .ok (.aload_n 0, 1) := by decide +kernel
theorem dX12_rest_95 : decode cX12_rest 95 = .ok (.getfield 134, 3) := by decide +kernel
theorem dX12_rest_98 : decode cX12_rest 98 = .ok (.bipush 6, 2) := by decide +kernel
theorem dX12_rest_100 : decode cX12_rest 100 = .ok (.iload_n 1, 1) := by decide +kernel
theorem dX12_rest_101 : decode cX12_rest 101 = .ok (.imul, 1) := by decide +kernel
theorem dX12_rest_102 : decode cX12_rest 102 = .ok (.iload_n 1, 1) := by decide +kernel
theorem dX12_rest_103 : decode cX12_rest 103 = .ok (.iadd, 1) := by decide +kernel
theorem dX12_rest_104 : decode cX12_rest 104 = .ok (.laload, 1) := by decide +kernel
theorem dX12_rest_105 : decode cX12_rest 105 = .ok (.lstore 6, 2) := by decide +kernel
theorem dX12_rest_107 : decode cX12_rest 107 = .ok (.lload 4, 2) := by decide +kernel
theorem dX12_rest_109 : decode cX12_rest 109 = .ok (.lload 6, 2) := by decide +kernel
theorem dX12_rest_111 : decode cX12_rest 111 = .ok (.invokestatic 400, 3) := by decide +kernel
theorem dX12_rest_114 : decode cX12_rest 114 = .ok (.lstore 8, 2) := by decide +kernel
theorem dX12_rest_116 : decode cX12_rest 116 = .ok (.lload 6, 2) := by decide +kernel
theorem dX12_rest_118 : decode cX12_rest 118 = .ok (.lconst 0, 1) := by decide +kernel
theorem dX12_rest_119 : decode cX12_rest 119 = .ok (.lcmp, 1) := by decide +kernel
theorem dX12_rest_120 : decode cX12_rest 120 = .ok (.ifCond .ge 8, 3) := by decide +kernel
theorem dX12_rest_123 : decode cX12_rest 123 = .ok (.lload 8, 2) := by decide +kernel
theorem dX12_rest_125 : decode cX12_rest 125 = .ok (.lneg, 1) := by decide +kernel
theorem dX12_rest_126 : decode cX12_rest 126 = .ok (.lstore 8, 2) := by decide +kernel
theorem dX12_rest_128 : decode cX12_rest 128 = .ok (.iload_n 3, 1) := by decide +kernel
theorem dX12_rest_129 : decode cX12_rest 129 = .ok (.ifCond .ne 11, 3) := by decide +kernel
theorem dX12_rest_132 : decode cX12_rest 132 = .ok (.lload 4, 2) := by decide +kernel
theorem dX12_rest_134 : decode cX12_rest 134 = .ok (.lload 8, 2) := by decide +kernel
theorem dX12_rest_136 : decode cX12_rest 136 = .ok (.ldiv, 1) := by decide +kernel
theorem dX12_rest_137 : decode cX12_rest 137 = .ok (.goto 8, 3) := by decide +kernel
theorem dX12_rest_140 : decode cX12_rest 140 = .ok (.lload 6, 2) := by decide +kernel
theorem dX12_rest_142 : decode cX12_rest 142 = .ok (.lload 8, 2) := by decide +kernel
theorem dX12_rest_144 : decode cX12_rest 144 = .ok (.ldiv, 1) := by decide +kernel
theorem dX12_rest_145 : decode cX12_rest 145 = .ok (.lreturn, 1) := by decide +kernel
theorem dX12_square_0 : decode cX12_square 0 = .ok (.iload_n 1, 1) := by decide +kernel
theorem dX12_square_1 : decode cX12_square 1 = .ok (.i2l, 1) := by decide +kernel
theorem dX12_square_2 : decode cX12_square 2 = .ok (.lconst 0, 1) := by decide +kernel
theorem dX12_square_3 : decode cX12_square 3 = .ok (.ldc2_w 300, 3) := by decide +kernel
theorem dX12_square_6 : decode cX12_square 6 = .ok (.invokestatic 222, 3) := by decide +kernel
theorem dX12_square_9 : decode cX12_square 9 = .ok (.ifCond .eq 15, 3) := by decide +kernel
theorem dX12_square_12 : decode cX12_square 12 = .ok (.iload_n 2, 1) := by decide +kernel
theorem dX12_square_13 : decode cX12_square 13 = .ok (.i2l, 1) := by decide +kernel
theorem dX12_square_14 : decode cX12_square 14 = .ok (.lconst 0, 1) := by decide +kernel
theorem dX12_square_15 : decode cX12_square 15 = .ok (.ldc2_w 300, 3) := by decide +kernel
theorem dX12_square_18 : decode cX12_square 18 = .ok (.invokestatic 222, 3) := by decide +kernel
theorem dX12_square_21 : decode cX12_square 21 = .ok (.ifCond .ne 9, 3) := by decide +kernel
theorem dX12_square_24 : decode cX12_square 24 = .ok (.aload_n 0, 1) := by decide +kernel
theorem dX12_square_25 : decode cX12_square 25 = .ok (.iconst (-1), 1) := by decide +kernel
theorem dX12_square_26 : decode cX12_square 26 = .ok (.invokevirtual 226, 3) := by decide +kernel
theorem dX12_square_29 : decode cX12_square 29 = .ok (.ireturn, 1) := by decide +kernel
theorem dX12_square_30 : decode cX12_square 30 = .ok (.aload_n 0, 1) := by decide +kernel
theorem dX12_square_31 : decode cX12_square 31 = .ok (.getfield 147, 3) := by decide +kernel
theorem dX12_square_34 : decode cX12_square 34 = .ok (.iconst 5, 1) := by decide +kernel
theorem dX12_square_35 : decode cX12_square 35 = .ok (.iload_n 1, 1) := by decide +kernel
theorem dX12_square_36 : decode cX12_square 36 = .ok (.imul, 1) := by decide +kernel
theorem dX12_square_37 : decode cX12_square 37 = .ok (.iload_n 2, 1) := by decide +kernel
theorem dX12_square_38 : decode cX12_square 38 = .ok (.iadd, 1) := by decide +kernel
theorem dX12_square_39 : decode cX12_square 39 = .ok (.baload, 1) := by decide +kernel
theorem dX12_square_40 : decode cX12_square 40 = .ok (.iload_n 3, 1) := by decide +kernel
theorem dX12_square_41 : decode cX12_square 41 = .ok (.if_icmp .eq 7, 3) := by decide +kernel
theorem dX12_square_44 : decode cX12_square 44 = .ok (.iconst 1, 1) := by decide +kernel
theorem dX12_square_45 : decode cX12_square 45 = .ok (.goto 4, 3) := by decide +kernel
theorem dX12_square_48 : decode cX12_square 48 = .ok (.iconst 0, 1) := by decide +kernel
theorem dX12_square_49 : decode cX12_square 49 = .ok (.istore 4, 2) := by decide +kernel
theorem dX12_square_51 : decode cX12_square 51 = .ok (.aload_n 0, 1) := by decide +kernel
theorem dX12_square_52 : decode cX12_square 52 = .ok (.getfield 147, 3) := by decide +kernel
theorem dX12_square_55 : decode cX12_square 55 = .ok (.iconst 5, 1) := by decide +kernel
theorem dX12_square_56 : decode cX12_square 56 = .ok (.iload_n 1, 1) := by decide +kernel
theorem dX12_square_57 : decode cX12_square 57 = .ok (.imul, 1) := by decide +kernel
theorem dX12_square_58 : decode cX12_square 58 = .ok (.iload_n 2, 1) := by decide +kernel
theorem dX12_square_59 : decode cX12_square 59 = .ok (.iadd, 1) := by decide +kernel
theorem dX12_square_60 : decode cX12_square 60 = .ok (.iload_n 3, 1) := by decide +kernel
theorem dX12_square_61 : decode cX12_square 61 = .ok (.bastore, 1) := by decide +kernel
theorem dX12_square_62 : decode cX12_square 62 = .ok (.iload 4, 2) := by decide +kernel
theorem dX12_square_64 : decode cX12_square 64 = .ok (.ireturn, 1) := by decide +kernel
theorem dX12_walks_0 : decode cX12_walks 0 = .ok (.iload_n 1, 1) := by decide +kernel
theorem dX12_walks_1 : decode cX12_walks 1 = .ok (.i2l, 1) := by decide +kernel
theorem dX12_walks_2 : decode cX12_walks 2 = .ok (.lconst 0, 1) := by decide +kernel
theorem dX12_walks_3 : decode cX12_walks 3 = .ok (.ldc2_w 300, 3) := by decide +kernel
theorem dX12_walks_6 : decode cX12_walks 6 = .ok (.invokestatic 222, 3) := by decide +kernel
theorem dX12_walks_9 : decode cX12_walks 9 = .ok (.ifCond .ne 9, 3) := by decide +kernel
theorem dX12_walks_12 : decode cX12_walks 12 = .ok (.aload_n 0, 1) := by decide +kernel
theorem dX12_walks_13 : decode cX12_walks 13 = .ok (.iconst (-1), 1) := by decide +kernel
theorem dX12_walks_14 : decode cX12_walks 14 = .ok (.invokevirtual 226, 3) := by decide +kernel
theorem dX12_walks_17 : decode cX12_walks 17 = .ok (.ireturn, 1) := by decide +kernel
theorem dX12_walks_18 : decode cX12_walks 18 = .ok (.iload_n 3, 1) := by decide +kernel
theorem dX12_walks_19 : decode cX12_walks 19 = .ok (.i2l, 1) := by decide +kernel
theorem dX12_walks_20 : decode cX12_walks 20 = .ok (.lconst 0, 1) := by decide +kernel
theorem dX12_walks_21 : decode cX12_walks 21 = .ok (.ldc2_w 290, 3) := by decide +kernel
theorem dX12_walks_24 : decode cX12_walks 24 = .ok (.invokestatic 222, 3) := by decide +kernel
theorem dX12_walks_27 : decode cX12_walks 27 = .ok (.ifCond .ne 10, 3) := by decide +kernel
theorem dX12_walks_30 : decode cX12_walks 30 = .ok (.aload_n 0, 1) := by decide +kernel
theorem dX12_walks_31 : decode cX12_walks 31 = .ok (.bipush (-2), 2) := by decide +kernel
theorem dX12_walks_33 : decode cX12_walks 33 = .ok (.invokevirtual 226, 3) := by decide +kernel
theorem dX12_walks_36 : decode cX12_walks 36 = .ok (.ireturn, 1) := by decide +kernel
theorem dX12_walks_37 : decode cX12_walks 37 = .ok (.iload_n 2, 1) := by decide +kernel
theorem dX12_walks_38 : decode cX12_walks 38 = .ok (.i2l, 1) := by decide +kernel
theorem dX12_walks_39 : decode cX12_walks 39 = .ok (.lconst 1, 1) := by decide +kernel
theorem dX12_walks_40 : decode cX12_walks 40 = .ok (.ldc2_w 418, 3) := by decide +kernel
theorem dX12_walks_43 : decode cX12_walks 43 = .ok (.invokestatic 232, 3) := by decide +kernel
theorem dX12_walks_46 : decode cX12_walks 46 = .ok (.istore 4, 2) := by decide +kernel
theorem dX12_walks_48 : decode cX12_walks 48 = .ok (.iload 4, 2) := by decide +kernel
theorem dX12_walks_50 : decode cX12_walks 50 = .ok (.ifCond .eq 10, 3) := by decide +kernel
theorem dX12_walks_53 : decode cX12_walks 53 = .ok (.aload_n 0, 1) := by decide +kernel
theorem dX12_walks_54 : decode cX12_walks 54 = .ok (.iload 4, 2) := by decide +kernel
theorem dX12_walks_56 : decode cX12_walks 56 = .ok (.invokevirtual 226, 3) := by decide +kernel
theorem dX12_walks_59 : decode cX12_walks 59 = .ok (.ireturn, 1) := by decide +kernel
theorem dX12_walks_60 : decode cX12_walks 60 = .ok (.iconst 0, 1) := by decide +kernel
theorem dX12_walks_61 : decode cX12_walks 61 = .ok (.istore 5, 2) := by decide +kernel
theorem dX12_walks_63 : decode cX12_walks 63 = .ok (.iconst 0, 1) := by decide +kernel
theorem dX12_walks_64 : decode cX12_walks 64 = .ok (.istore 6, 2) := by decide +kernel
theorem dX12_walks_66 : decode cX12_walks 66 = .ok (.iconst 0, 1) := by decide +kernel
theorem dX12_walks_67 : decode cX12_walks 67 = .ok (.istore 7, 2) := by decide +kernel
theorem dX12_walks_69 : decode cX12_walks 69 = .ok (.iload 7, 2) := by decide +kernel
theorem dX12_walks_71 : decode cX12_walks 71 = .ok (.bipush 25, 2) := by decide +kernel
theorem dX12_walks_73 : decode cX12_walks 73 = .ok (.if_icmp .ge 27, 3) := by decide +kernel
theorem dX12_walks_76 : decode cX12_walks 76 = .ok (.aload_n 0, 1) := by decide +kernel
theorem dX12_walks_77 : decode cX12_walks 77 = .ok (.getfield 150, 3) := by decide +kernel
theorem dX12_walks_80 : decode cX12_walks 80 = .ok (.iload 7, 2) := by decide +kernel
theorem dX12_walks_82 : decode cX12_walks 82 = .ok (.iload 7, 2) := by decide +kernel
theorem dX12_walks_84 : decode cX12_walks 84 = .ok (.iload_n 1, 1) := by decide +kernel
theorem dX12_walks_85 : decode cX12_walks 85 = .ok (.if_icmp .ne 7, 3) := by decide +kernel
theorem dX12_walks_88 : decode cX12_walks 88 = .ok (.iconst 1, 1) := by decide +kernel
theorem dX12_walks_89 : decode cX12_walks 89 = .ok (.goto 4, 3) := by decide +kernel
theorem dX12_walks_92 : decode cX12_walks 92 = .ok (.iconst 0, 1) := by decide +kernel
theorem dX12_walks_93 : decode cX12_walks 93 = .ok (.iastore, 1) := by decide +kernel
theorem dX12_walks_94 : decode cX12_walks 94 = .ok (.iinc 7 1, 3) := by decide +kernel
theorem dX12_walks_97 : decode cX12_walks 97 = .ok (.goto (-28), 3) := by decide +kernel
theorem dX12_walks_100 : decode cX12_walks 100 = .ok (.iconst 0, 1) := by decide +kernel
theorem dX12_walks_101 : decode cX12_walks 101 = .ok (.istore 7, 2) := by decide +kernel
theorem dX12_walks_103 : decode cX12_walks 103 = .ok (.iload 7, 2) := by decide +kernel
theorem dX12_walks_105 : decode cX12_walks 105 = .ok (.iload_n 2, 1) := by decide +kernel
theorem dX12_walks_106 : decode cX12_walks 106 = .ok (.if_icmp .ge 272, 3) := by decide +kernel
theorem dX12_walks_109 : decode cX12_walks 109 = .ok (.iload 5, 2) := by decide +kernel
theorem dX12_walks_111 : decode cX12_walks 111 = .ok (.iconst 4, 1) := by decide +kernel
theorem dX12_walks_112 : decode cX12_walks 112 = .ok (.imul, 1) := by decide +kernel
theorem dX12_walks_113 : decode cX12_walks 113 = .ok (.istore 5, 2) := by decide +kernel
theorem dX12_walks_115 : decode cX12_walks 115 = .ok (.iload 6, 2) := by decide +kernel
theorem dX12_walks_117 : decode cX12_walks 117 = .ok (.iconst 4, 1) := by decide +kernel
theorem dX12_walks_118 : decode cX12_walks 118 = .ok (.imul, 1) := by decide +kernel
theorem dX12_walks_119 : decode cX12_walks 119 = .ok (.istore 6, 2) := by decide +kernel
theorem dX12_walks_121 : decode cX12_walks 121 = .ok (.iconst 0, 1) := by decide +kernel
theorem dX12_walks_122 : decode cX12_walks 122 = .ok (.istore 8, 2) := by decide +kernel
theorem dX12_walks_124 : decode cX12_walks 124 = .ok (.iload 8, 2) := by decide +kernel
theorem dX12_walks_126 : decode cX12_walks 126 = .ok (.bipush 25, 2) := by decide +kernel
theorem dX12_walks_128 : decode cX12_walks 128 = .ok (.if_icmp .ge 17, 3) := by decide +kernel
theorem dX12_walks_131 : decode cX12_walks 131 = .ok (.aload_n 0, 1) := by decide +kernel
theorem dX12_walks_132 : decode cX12_walks 132 = .ok (.getfield 153, 3) := by decide +kernel
theorem dX12_walks_135 : decode cX12_walks 135 = .ok (.iload 8, 2) := by decide +kernel
theorem dX12_walks_137 : decode cX12_walks 137 = .ok (.iconst 0, 1) := by decide +kernel
theorem dX12_walks_138 : decode cX12_walks 138 = .ok (.iastore, 1) := by decide +kernel
theorem dX12_walks_139 : decode cX12_walks 139 = .ok (.iinc 8 1, 3) := by decide +kernel
theorem dX12_walks_142 : decode cX12_walks 142 = .ok (.goto (-18), 3) := by decide +kernel
theorem dX12_walks_145 : decode cX12_walks 145 = .ok (.iconst 0, 1) := by decide +kernel
theorem dX12_walks_146 : decode cX12_walks 146 = .ok (.istore 8, 2) := by decide +kernel
theorem dX12_walks_148 : decode cX12_walks 148 = .ok (.iload 8, 2) := by decide +kernel
theorem dX12_walks_150 : decode cX12_walks 150 = .ok (.bipush 25, 2) := by decide +kernel
theorem dX12_walks_152 : decode cX12_walks 152 = .ok (.if_icmp .ge 190, 3) := by decide +kernel
theorem dX12_walks_155 : decode cX12_walks 155 = .ok (.iconst 0, 1) := by decide +kernel
theorem dX12_walks_156 : decode cX12_walks 156 = .ok (.istore 9, 2) := by decide +kernel
theorem dX12_walks_158 : decode cX12_walks 158 = .ok (.iload 9, 2) := by decide +kernel
theorem dX12_walks_160 : decode cX12_walks 160 = .ok (.iconst 4, 1) := by decide +kernel
theorem dX12_walks_161 : decode cX12_walks 161 = .ok (.if_icmp .ge 175, 3) := by decide +kernel
theorem dX12_walks_164 : decode cX12_walks 164 = .ok (.iload 8, 2) := by decide +kernel
theorem dX12_walks_166 : decode cX12_walks 166 = .ok (.iconst 5, 1) := by decide +kernel
theorem dX12_walks_167 : decode cX12_walks 167 = .ok (.idiv, 1) := by decide +kernel
theorem dX12_walks_168 : decode cX12_walks 168 = .ok (.aload_n 0, 1) := by decide +kernel
theorem dX12_walks_169 : decode cX12_walks 169 = .ok (.getfield 156, 3) := by decide +kernel
theorem dX12_walks_172 : decode cX12_walks 172 = .ok (.iload 9, 2) := by decide +kernel
theorem dX12_walks_174 : decode cX12_walks 174 = .ok (.iaload, 1) := by decide +kernel
theorem dX12_walks_175 : decode cX12_walks 175 = .ok (.iadd, 1) := by decide +kernel
theorem dX12_walks_176 : decode cX12_walks 176 = .ok (.istore 10, 2) := by decide +kernel
theorem dX12_walks_178 : decode cX12_walks 178 = .ok (.iload 8, 2) := by decide +kernel
theorem dX12_walks_180 : decode cX12_walks 180 = .ok (.iconst 5, 1) := by decide +kernel
theorem dX12_walks_181 : decode cX12_walks 181 = .ok (.irem, 1) := by decide +kernel
theorem dX12_walks_182 : decode cX12_walks 182 = .ok (.aload_n 0, 1) := by decide +kernel
theorem dX12_walks_183 : decode cX12_walks 183 = .ok (.getfield 159, 3) := by decide +kernel
theorem dX12_walks_186 : decode cX12_walks 186 = .ok (.iload 9, 2) := by decide +kernel
theorem dX12_walks_188 : decode cX12_walks 188 = .ok (.iaload, 1) := by decide +kernel
theorem dX12_walks_189 : decode cX12_walks 189 = .ok (.iadd, 1) := by decide +kernel
theorem dX12_walks_190 : decode cX12_walks 190 = .ok (.istore 11, 2) := by decide +kernel
theorem dX12_walks_192 : decode cX12_walks 192 = .ok (.aload_n 0, 1) := by decide +kernel
theorem dX12_walks_193 : decode cX12_walks 193 = .ok (.getfield 147, 3) := by decide +kernel
theorem dX12_walks_196 : decode cX12_walks 196 = .ok (.iload_n 1, 1) := by decide +kernel
theorem dX12_walks_197 : decode cX12_walks 197 = .ok (.baload, 1) := by decide +kernel
theorem dX12_walks_198 : decode cX12_walks 198 = .ok (.ifCond .eq 23, 3) := by decide +kernel
theorem dX12_walks_201 : decode cX12_walks 201 = .ok (.aload_n 0, 1) := by decide +kernel
theorem dX12_walks_202 : decode cX12_walks 202 = .ok (.getfield 153, 3) := by decide +kernel
theorem dX12_walks_205 : decode cX12_walks 205 = .ok (.iload 8, 2) := by decide +kernel
theorem dX12_walks_207 : decode cX12_walks 207 = .ok (.dup2, 1) := by decide +kernel
theorem dX12_walks_208 : decode cX12_walks 208 = .ok (.iaload, 1) := by decide +kernel
theorem dX12_walks_209 : decode cX12_walks 209 = .ok (.aload_n 0, 1) := by decide +kernel
theorem dX12_walks_210 : decode cX12_walks 210 = .ok (.getfield 150, 3) := by decide +kernel
theorem dX12_walks_213 : decode cX12_walks 213 = .ok (.iload 8, 2) := by decide +kernel
theorem dX12_walks_215 : decode cX12_walks 215 = .ok (.iaload, 1) := by decide +kernel
theorem dX12_walks_216 : decode cX12_walks 216 = .ok (.iadd, 1) := by decide +kernel
theorem dX12_walks_217 : decode cX12_walks 217 = .ok (.iastore, 1) := by decide +kernel
theorem dX12_walks_218 : decode cX12_walks 218 = .ok (.goto 112, 3) := by decide +kernel
theorem dX12_walks_221 : decode cX12_walks 221 = .ok (.iload 10, 2) := by decide +kernel
theorem dX12_walks_223 : decode cX12_walks 223 = .ok (.ifCond .ge 18, 3) := by decide +kernel
theorem dX12_walks_226 : decode cX12_walks 226 = .ok (.iload 6, 2) := by decide +kernel
theorem dX12_walks_228 : decode cX12_walks 228 = .ok (.aload_n 0, 1) := by decide +kernel
theorem dX12_walks_229 : decode cX12_walks 229 = .ok (.getfield 150, 3) := by decide +kernel
theorem dX12_walks_232 : decode cX12_walks 232 = .ok (.iload 8, 2) := by decide +kernel
theorem dX12_walks_234 : decode cX12_walks 234 = .ok (.iaload, 1) := by decide +kernel
theorem dX12_walks_235 : decode cX12_walks 235 = .ok (.iadd, 1) := by decide +kernel
theorem dX12_walks_236 : decode cX12_walks 236 = .ok (.istore 6, 2) := by decide +kernel
theorem dX12_walks_238 : decode cX12_walks 238 = .ok (.goto 92, 3) := by decide +kernel
theorem dX12_walks_241 : decode cX12_walks 241 = .ok (.iload 10, 2) := by decide +kernel
theorem dX12_walks_243 : decode cX12_walks 243 = .ok (.iconst 4, 1) := by decide +kernel
theorem dX12_walks_244 : decode cX12_walks 244 = .ok (.if_icmp .le 18, 3) := by decide +kernel
theorem dX12_walks_247 : decode cX12_walks 247 = .ok (.iload 5, 2) := by decide +kernel
theorem dX12_walks_249 : decode cX12_walks 249 = .ok (.aload_n 0, 1) := by decide +kernel
theorem dX12_walks_250 : decode cX12_walks 250 = .ok (.getfield 150, 3) := by decide +kernel
theorem dX12_walks_253 : decode cX12_walks 253 = .ok (.iload 8, 2) := by decide +kernel
theorem dX12_walks_255 : decode cX12_walks 255 = .ok (.iaload, 1) := by decide +kernel
theorem dX12_walks_256 : decode cX12_walks 256 = .ok (.iadd, 1) := by decide +kernel
theorem dX12_walks_257 : decode cX12_walks 257 = .ok (.istore 5, 2) := by decide +kernel
theorem dX12_walks_259 : decode cX12_walks 259 = .ok (.goto 71, 3) := by decide +kernel
theorem dX12_walks_262 : decode cX12_walks 262 = .ok (.iload 11, 2) := by decide +kernel
theorem dX12_walks_264 : decode cX12_walks 264 = .ok (.ifCond .lt 24, 3) := by decide +kernel
theorem dX12_walks_267 : decode cX12_walks 267 = .ok (.iload 11, 2) := by decide +kernel
theorem dX12_walks_269 : decode cX12_walks 269 = .ok (.iconst 4, 1) := by decide +kernel
theorem dX12_walks_270 : decode cX12_walks 270 = .ok (.if_icmp .gt 18, 3) := by decide +kernel
theorem dX12_walks_273 : decode cX12_walks 273 = .ok (.aload_n 0, 1) := by decide +kernel
theorem dX12_walks_274 : decode cX12_walks 274 = .ok (.getfield 147, 3) := by decide +kernel
theorem dX12_walks_277 : decode cX12_walks 277 = .ok (.iconst 5, 1) := by decide +kernel
theorem dX12_walks_278 : decode cX12_walks 278 = .ok (.iload 10, 2) := by decide +kernel
theorem dX12_walks_280 : decode cX12_walks 280 = .ok (.imul, 1) := by decide +kernel
theorem dX12_walks_281 : decode cX12_walks 281 = .ok (.iload 11, 2) := by decide +kernel
theorem dX12_walks_283 : decode cX12_walks 283 = .ok (.iadd, 1) := by decide +kernel
theorem dX12_walks_284 : decode cX12_walks 284 = .ok (.baload, 1) := by decide +kernel
theorem dX12_walks_285 : decode cX12_walks 285 = .ok (.ifCond .eq 23, 3) := by decide +kernel
theorem dX12_walks_288 : decode cX12_walks 288 = .ok (.aload_n 0, 1) := by decide +kernel
theorem dX12_walks_289 : decode cX12_walks 289 = .ok (.getfield 153, 3) := by decide +kernel
theorem dX12_walks_292 : decode cX12_walks 292 = .ok (.iload 8, 2) := by decide +kernel
theorem dX12_walks_294 : decode cX12_walks 294 = .ok (.dup2, 1) := by decide +kernel
theorem dX12_walks_295 : decode cX12_walks 295 = .ok (.iaload, 1) := by decide +kernel
theorem dX12_walks_296 : decode cX12_walks 296 = .ok (.aload_n 0, 1) := by decide +kernel
theorem dX12_walks_297 : decode cX12_walks 297 = .ok (.getfield 150, 3) := by decide +kernel
theorem dX12_walks_300 : decode cX12_walks 300 = .ok (.iload 8, 2) := by decide +kernel
theorem dX12_walks_302 : decode cX12_walks 302 = .ok (.iaload, 1) := by decide +kernel
theorem dX12_walks_303 : decode cX12_walks 303 = .ok (.iadd, 1) := by decide +kernel
theorem dX12_walks_304 : decode cX12_walks 304 = .ok (.iastore, 1) := by decide +kernel
theorem dX12_walks_305 : decode cX12_walks 305 = .ok (.goto 25, 3) := by decide +kernel
theorem dX12_walks_308 : decode cX12_walks 308 = .ok (.aload_n 0, 1) := by decide +kernel
theorem dX12_walks_309 : decode cX12_walks 309 = .ok (.getfield 153, 3) := by decide +kernel
theorem dX12_walks_312 : decode cX12_walks 312 = .ok (.iconst 5, 1) := by decide +kernel
theorem dX12_walks_313 : decode cX12_walks 313 = .ok (.iload 10, 2) := by decide +kernel
theorem dX12_walks_315 : decode cX12_walks 315 = .ok (.imul, 1) := by decide +kernel
theorem dX12_walks_316 : decode cX12_walks 316 = .ok (.iload 11, 2) := by decide +kernel
theorem dX12_walks_318 : decode cX12_walks 318 = .ok (.iadd, 1) := by decide +kernel
theorem dX12_walks_319 : decode cX12_walks 319 = .ok (.dup2, 1) := by decide +kernel
theorem dX12_walks_320 : decode cX12_walks 320 = .ok (.iaload, 1) := by decide +kernel
theorem dX12_walks_321 : decode cX12_walks 321 = .ok (.aload_n 0, 1) := by decide +kernel
theorem dX12_walks_322 : decode cX12_walks 322 = .ok (.getfield 150, 3) := by decide +kernel
theorem dX12_walks_325 : decode cX12_walks 325 = .ok (.iload 8, 2) := by decide +kernel
theorem dX12_walks_327 : decode cX12_walks 327 = .ok (.iaload, 1) := by decide +kernel
theorem dX12_walks_328 : decode cX12_walks 328 = .ok (.iadd, 1) := by decide +kernel
theorem dX12_walks_329 : decode cX12_walks 329 = .ok (.iastore, 1) := by decide +kernel
theorem dX12_walks_330 : decode cX12_walks 330 = .ok (.iinc 9 1, 3) := by decide +kernel
theorem dX12_walks_333 : decode cX12_walks 333 = .ok (.goto (-175), 3) := by decide +kernel
theorem dX12_walks_336 : decode cX12_walks 336 = .ok (.iinc 8 1, 3) := by decide +kernel
theorem dX12_walks_339 : decode cX12_walks 339 = .ok (.goto (-191), 3) := by decide +kernel
theorem dX12_walks_342 : decode cX12_walks 342 = .ok (.iconst 0, 1) := by decide +kernel
theorem dX12_walks_343 : decode cX12_walks 343 = .ok (.istore 8, 2) := by decide +kernel
theorem dX12_walks_345 : decode cX12_walks 345 = .ok (.iload 8, 2) := by decide +kernel
theorem dX12_walks_347 : decode cX12_walks 347 = .ok (.bipush 25, 2) := by decide +kernel
theorem dX12_walks_349 : decode cX12_walks 349 = .ok (.if_icmp .ge 23, 3) := by decide +kernel
theorem dX12_walks_352 : decode cX12_walks 352 = .ok (.aload_n 0, 1) := by decide +kernel
theorem dX12_walks_353 : decode cX12_walks 353 = .ok (.getfield 150, 3) := by decide +kernel
theorem dX12_walks_356 : decode cX12_walks 356 = .ok (.iload 8, 2) := by decide +kernel
theorem dX12_walks_358 : decode cX12_walks 358 = .ok (.aload_n 0, 1) := by decide +kernel
theorem dX12_walks_359 : decode cX12_walks 359 = .ok (.getfield 153, 3) := by decide +kernel
theorem dX12_walks_362 : decode cX12_walks 362 = .ok (.iload 8, 2) := by decide +kernel
theorem dX12_walks_364 : decode cX12_walks 364 = .ok (.iaload, 1) := by decide +kernel
theorem dX12_walks_365 : decode cX12_walks 365 = .ok (.iastore, 1) := by decide +kernel
theorem dX12_walks_366 : decode cX12_walks 366 = .ok (.iinc 8 1, 3) := by decide +kernel
theorem dX12_walks_369 : decode cX12_walks 369 = .ok (.goto (-24), 3) := by decide +kernel
theorem dX12_walks_372 : decode cX12_walks 372 = .ok (.iinc 7 1, 3) := by decide +kernel
theorem dX12_walks_375 : decode cX12_walks 375 = .ok (.goto (-272), 3) := by decide +kernel
theorem dX12_walks_378 : decode cX12_walks 378 = .ok (.iconst 0, 1) := by decide +kernel
theorem dX12_walks_379 : decode cX12_walks 379 = .ok (.istore 7, 2) := by decide +kernel
theorem dX12_walks_381 : decode cX12_walks 381 = .ok (.iconst 0, 1) := by decide +kernel
theorem dX12_walks_382 : decode cX12_walks 382 = .ok (.istore 8, 2) := by decide +kernel
theorem dX12_walks_384 : decode cX12_walks 384 = .ok (.iload 8, 2) := by decide +kernel
theorem dX12_walks_386 : decode cX12_walks 386 = .ok (.bipush 25, 2) := by decide +kernel
theorem dX12_walks_388 : decode cX12_walks 388 = .ok (.if_icmp .ge 21, 3) := by decide +kernel
theorem dX12_walks_391 : decode cX12_walks 391 = .ok (.iload 7, 2) := by decide +kernel
theorem dX12_walks_393 : decode cX12_walks 393 = .ok (.aload_n 0, 1) := by decide +kernel
theorem dX12_walks_394 : decode cX12_walks 394 = .ok (.getfield 150, 3) := by decide +kernel
theorem dX12_walks_397 : decode cX12_walks 397 = .ok (.iload 8, 2) := by decide +kernel
theorem dX12_walks_399 : decode cX12_walks 399 = .ok (.iaload, 1) := by decide +kernel
theorem dX12_walks_400 : decode cX12_walks 400 = .ok (.iadd, 1) := by decide +kernel
theorem dX12_walks_401 : decode cX12_walks 401 = .ok (.istore 7, 2) := by decide +kernel
theorem dX12_walks_403 : decode cX12_walks 403 = .ok (.iinc 8 1, 3) := by decide +kernel
theorem dX12_walks_406 : decode cX12_walks 406 = .ok (.goto (-22), 3) := by decide +kernel
theorem dX12_walks_409 : decode cX12_walks 409 = .ok (.iload_n 3, 1) := by decide +kernel
theorem dX12_walks_410 : decode cX12_walks 410 = .ok (.ifCond .ne 8, 3) := by decide +kernel
theorem dX12_walks_413 : decode cX12_walks 413 = .ok (.iload 5, 2) := by decide +kernel
theorem dX12_walks_415 : decode cX12_walks 415 = .ok (.goto 15, 3) := by decide +kernel
theorem dX12_walks_418 : decode cX12_walks 418 = .ok (.iload_n 3, 1) := by decide +kernel
theorem dX12_walks_419 : decode cX12_walks 419 = .ok (.iconst 1, 1) := by decide +kernel
theorem dX12_walks_420 : decode cX12_walks 420 = .ok (.if_icmp .ne 8, 3) := by decide +kernel
theorem dX12_walks_423 : decode cX12_walks 423 = .ok (.iload 6, 2) := by decide +kernel
theorem dX12_walks_425 : decode cX12_walks 425 = .ok (.goto 5, 3) := by decide +kernel
theorem dX12_walks_428 : decode cX12_walks 428 = .ok (.iload 7, 2) := by decide +kernel
theorem dX12_walks_430 : decode cX12_walks 430 = .ok (.ireturn, 1) := by decide +kernel
theorem dX12_sees_0 : decode cX12_sees 0 = .ok (.iload_n 1, 1) := by decide +kernel
theorem dX12_sees_1 : decode cX12_sees 1 = .ok (.i2l, 1) := by decide +kernel
theorem dX12_sees_2 : decode cX12_sees 2 = .ok (.lconst 0, 1) := by decide +kernel
theorem dX12_sees_3 : decode cX12_sees 3 = .ok (.ldc2_w 290, 3) := by decide +kernel
theorem dX12_sees_6 : decode cX12_sees 6 = .ok (.invokestatic 222, 3) := by decide +kernel
theorem dX12_sees_9 : decode cX12_sees 9 = .ok (.ifCond .eq 10, 3) := by decide +kernel
theorem dX12_sees_12 : decode cX12_sees 12 = .ok (.iload_n 2, 1) := by decide +kernel
theorem dX12_sees_13 : decode cX12_sees 13 = .ok (.invokestatic 244, 3) := by decide +kernel
theorem dX12_sees_16 : decode cX12_sees 16 = .ok (.ifCond .ne 9, 3) := by decide +kernel
theorem dX12_sees_19 : decode cX12_sees 19 = .ok (.aload_n 0, 1) := by decide +kernel
theorem dX12_sees_20 : decode cX12_sees 20 = .ok (.iconst (-1), 1) := by decide +kernel
theorem dX12_sees_21 : decode cX12_sees 21 = .ok (.invokevirtual 226, 3) := by decide +kernel
theorem dX12_sees_24 : decode cX12_sees 24 = .ok (.ireturn, 1) := by decide +kernel
theorem dX12_sees_25 : decode cX12_sees 25 = .ok (.iload_n 3, 1) := by decide +kernel
theorem dX12_sees_26 : decode cX12_sees 26 = .ok (.i2l, 1) := by decide +kernel
theorem dX12_sees_27 : decode cX12_sees 27 = .ok (.lconst 0, 1) := by decide +kernel
theorem dX12_sees_28 : decode cX12_sees 28 = .ok (.ldc2_w 242, 3) := by decide +kernel
theorem dX12_sees_31 : decode cX12_sees 31 = .ok (.invokestatic 232, 3) := by decide +kernel
theorem dX12_sees_34 : decode cX12_sees 34 = .ok (.istore 4, 2) := by decide +kernel
theorem dX12_sees_36 : decode cX12_sees 36 = .ok (.iload 4, 2) := by decide +kernel
theorem dX12_sees_38 : decode cX12_sees 38 = .ok (.ifCond .eq 10, 3) := by decide +kernel
theorem dX12_sees_41 : decode cX12_sees 41 = .ok (.aload_n 0, 1) := by decide +kernel
theorem dX12_sees_42 : decode cX12_sees 42 = .ok (.iload 4, 2) := by decide +kernel
theorem dX12_sees_44 : decode cX12_sees 44 = .ok (.invokevirtual 226, 3) := by decide +kernel
theorem dX12_sees_47 : decode cX12_sees 47 = .ok (.ireturn, 1) := by decide +kernel
theorem dX12_sees_48 : decode cX12_sees 48 = .ok (.aload_n 0, 1) := by decide +kernel
theorem dX12_sees_49 : decode cX12_sees 49 = .ok (.getfield 162, 3) := by decide +kernel
theorem dX12_sees_52 : decode cX12_sees 52 = .ok (.iconst 3, 1) := by decide +kernel
theorem dX12_sees_53 : decode cX12_sees 53 = .ok (.iload_n 1, 1) := by decide +kernel
theorem dX12_sees_54 : decode cX12_sees 54 = .ok (.imul, 1) := by decide +kernel
theorem dX12_sees_55 : decode cX12_sees 55 = .ok (.iload_n 2, 1) := by decide +kernel
theorem dX12_sees_56 : decode cX12_sees 56 = .ok (.iadd, 1) := by decide +kernel
theorem dX12_sees_57 : decode cX12_sees 57 = .ok (.iaload, 1) := by decide +kernel
theorem dX12_sees_58 : decode cX12_sees 58 = .ok (.istore 5, 2) := by decide +kernel
theorem dX12_sees_60 : decode cX12_sees 60 = .ok (.aload_n 0, 1) := by decide +kernel
theorem dX12_sees_61 : decode cX12_sees 61 = .ok (.getfield 162, 3) := by decide +kernel
theorem dX12_sees_64 : decode cX12_sees 64 = .ok (.iconst 3, 1) := by decide +kernel
theorem dX12_sees_65 : decode cX12_sees 65 = .ok (.iload_n 1, 1) := by decide +kernel
theorem dX12_sees_66 : decode cX12_sees 66 = .ok (.imul, 1) := by decide +kernel
theorem dX12_sees_67 : decode cX12_sees 67 = .ok (.iload_n 2, 1) := by decide +kernel
theorem dX12_sees_68 : decode cX12_sees 68 = .ok (.iadd, 1) := by decide +kernel
theorem dX12_sees_69 : decode cX12_sees 69 = .ok (.iload_n 3, 1) := by decide +kernel
theorem dX12_sees_70 : decode cX12_sees 70 = .ok (.iastore, 1) := by decide +kernel
theorem dX12_sees_71 : decode cX12_sees 71 = .ok (.iload 5, 2) := by decide +kernel
theorem dX12_sees_73 : decode cX12_sees 73 = .ok (.ireturn, 1) := by decide +kernel
theorem dX12_readsBy_0 : decode cX12_readsBy 0 = .ok (.aload_n 0, 1) := by decide +kernel
theorem dX12_readsBy_1 : decode cX12_readsBy 1 = .ok (.getfield 162, 3) := by decide +kernel
theorem dX12_readsBy_4 : decode cX12_readsBy 4 = .ok (.iconst 3, 1) := by decide +kernel
theorem dX12_readsBy_5 : decode cX12_readsBy 5 = .ok (.iload_n 1, 1) := by decide +kernel
theorem dX12_readsBy_6 : decode cX12_readsBy 6 = .ok (.imul, 1) := by decide +kernel
theorem dX12_readsBy_7 : decode cX12_readsBy 7 = .ok (.iaload, 1) := by decide +kernel
theorem dX12_readsBy_8 : decode cX12_readsBy 8 = .ok (.i2l, 1) := by decide +kernel
theorem dX12_readsBy_9 : decode cX12_readsBy 9 = .ok (.lload_n 2, 1) := by decide +kernel
theorem dX12_readsBy_10 : decode cX12_readsBy 10 = .ok (.lmul, 1) := by decide +kernel
theorem dX12_readsBy_11 : decode cX12_readsBy 11 = .ok (.aload_n 0, 1) := by decide +kernel
theorem dX12_readsBy_12 : decode cX12_readsBy 12 = .ok (.getfield 162, 3) := by decide +kernel
theorem dX12_readsBy_15 : decode cX12_readsBy 15 = .ok (.iconst 3, 1) := by decide +kernel
theorem dX12_readsBy_16 : decode cX12_readsBy 16 = .ok (.iload_n 1, 1) := by decide +kernel
theorem dX12_readsBy_17 : decode cX12_readsBy 17 = .ok (.imul, 1) := by decide +kernel
theorem dX12_readsBy_18 : decode cX12_readsBy 18 = .ok (.iconst 1, 1) := by decide +kernel
theorem dX12_readsBy_19 : decode cX12_readsBy 19 = .ok (.iadd, 1) := by decide +kernel
theorem dX12_readsBy_20 : decode cX12_readsBy 20 = .ok (.iaload, 1) := by decide +kernel
theorem dX12_readsBy_21 : decode cX12_readsBy 21 = .ok (.i2l, 1) := by decide +kernel
theorem dX12_readsBy_22 : decode cX12_readsBy 22 = .ok (.lload 4, 2) := by decide +kernel
theorem dX12_readsBy_24 : decode cX12_readsBy 24 = .ok (.lmul, 1) := by decide +kernel
theorem dX12_readsBy_25 : decode cX12_readsBy 25 = .ok (.ladd, 1) := by decide +kernel
theorem dX12_readsBy_26 : decode cX12_readsBy 26 = .ok (.aload_n 0, 1) := by decide +kernel
theorem dX12_readsBy_27 : decode cX12_readsBy 27 = .ok (.getfield 162, 3) := by decide +kernel
theorem dX12_readsBy_30 : decode cX12_readsBy 30 = .ok (.iconst 3, 1) := by decide +kernel
theorem dX12_readsBy_31 : decode cX12_readsBy 31 = .ok (.iload_n 1, 1) := by decide +kernel
theorem dX12_readsBy_32 : decode cX12_readsBy 32 = .ok (.imul, 1) := by decide +kernel
theorem dX12_readsBy_33 : decode cX12_readsBy 33 = .ok (.iconst 2, 1) := by decide +kernel
theorem dX12_readsBy_34 : decode cX12_readsBy 34 = .ok (.iadd, 1) := by decide +kernel
theorem dX12_readsBy_35 : decode cX12_readsBy 35 = .ok (.iaload, 1) := by decide +kernel
theorem dX12_readsBy_36 : decode cX12_readsBy 36 = .ok (.i2l, 1) := by decide +kernel
theorem dX12_readsBy_37 : decode cX12_readsBy 37 = .ok (.lload 6, 2) := by decide +kernel
theorem dX12_readsBy_39 : decode cX12_readsBy 39 = .ok (.lmul, 1) := by decide +kernel
theorem dX12_readsBy_40 : decode cX12_readsBy 40 = .ok (.ladd, 1) := by decide +kernel
theorem dX12_readsBy_41 : decode cX12_readsBy 41 = .ok (.ldc2_w 420, 3) := by decide +kernel
theorem dX12_readsBy_44 : decode cX12_readsBy 44 = .ok (.ldiv, 1) := by decide +kernel
theorem dX12_readsBy_45 : decode cX12_readsBy 45 = .ok (.invokestatic 286, 3) := by decide +kernel
theorem dX12_readsBy_48 : decode cX12_readsBy 48 = .ok (.ireturn, 1) := by decide +kernel
theorem dX12_reads_0 : decode cX12_reads 0 = .ok (.iload_n 1, 1) := by decide +kernel
theorem dX12_reads_1 : decode cX12_reads 1 = .ok (.i2l, 1) := by decide +kernel
theorem dX12_reads_2 : decode cX12_reads 2 = .ok (.lconst 0, 1) := by decide +kernel
theorem dX12_reads_3 : decode cX12_reads 3 = .ok (.ldc2_w 290, 3) := by decide +kernel
theorem dX12_reads_6 : decode cX12_reads 6 = .ok (.invokestatic 222, 3) := by decide +kernel
theorem dX12_reads_9 : decode cX12_reads 9 = .ok (.ifCond .eq 11, 3) := by decide +kernel
theorem dX12_reads_12 : decode cX12_reads 12 = .ok (.aload_n 0, 1) := by decide +kernel
theorem dX12_reads_13 : decode cX12_reads 13 = .ok (.iload_n 2, 1) := by decide +kernel
theorem dX12_reads_14 : decode cX12_reads 14 = .ok (.invokevirtual 238, 3) := by decide +kernel
theorem dX12_reads_17 : decode cX12_reads 17 = .ok (.ifCond .ne 9, 3) := by decide +kernel
theorem dX12_reads_20 : decode cX12_reads 20 = .ok (.aload_n 0, 1) := by decide +kernel
theorem dX12_reads_21 : decode cX12_reads 21 = .ok (.iconst (-1), 1) := by decide +kernel
theorem dX12_reads_22 : decode cX12_reads 22 = .ok (.invokevirtual 226, 3) := by decide +kernel
theorem dX12_reads_25 : decode cX12_reads 25 = .ok (.ireturn, 1) := by decide +kernel
theorem dX12_reads_26 : decode cX12_reads 26 = .ok (.aload_n 0, 1) := by decide +kernel
theorem dX12_reads_27 : decode cX12_reads 27 = .ok (.iload_n 1, 1) := by decide +kernel
theorem dX12_reads_28 : decode cX12_reads 28 = .ok (.aload_n 0, 1) := by decide +kernel
theorem dX12_reads_29 : decode cX12_reads 29 = .ok (.getfield 46, 3) := by decide +kernel
theorem dX12_reads_32 : decode cX12_reads 32 = .ok (.iconst 3, 1) := by decide +kernel
theorem dX12_reads_33 : decode cX12_reads 33 = .ok (.iload_n 2, 1) := by decide +kernel
theorem dX12_reads_34 : decode cX12_reads 34 = .ok (.imul, 1) := by decide +kernel
theorem dX12_reads_35 : decode cX12_reads 35 = .ok (.iaload, 1) := by decide +kernel
theorem dX12_reads_36 : decode cX12_reads 36 = .ok (.i2l, 1) := by decide +kernel
theorem dX12_reads_37 : decode cX12_reads 37 = .ok (.aload_n 0, 1) := by decide +kernel
theorem dX12_reads_38 : decode cX12_reads 38 = .ok (.getfield 46, 3) := by decide +kernel
theorem dX12_reads_41 : decode cX12_reads 41 = .ok (.iconst 3, 1) := by decide +kernel
theorem dX12_reads_42 : decode cX12_reads 42 = .ok (.iload_n 2, 1) := by decide +kernel
theorem dX12_reads_43 : decode cX12_reads 43 = .ok (.imul, 1) := by decide +kernel
theorem dX12_reads_44 : decode cX12_reads 44 = .ok (.iconst 1, 1) := by decide +kernel
theorem dX12_reads_45 : decode cX12_reads 45 = .ok (.iadd, 1) := by decide +kernel
theorem dX12_reads_46 : decode cX12_reads 46 = .ok (.iaload, 1) := by decide +kernel
theorem dX12_reads_47 : decode cX12_reads 47 = .ok (.i2l, 1) := by decide +kernel
theorem dX12_reads_48 : decode cX12_reads 48 = .ok (.aload_n 0, 1) := by decide +kernel
theorem dX12_reads_49 : decode cX12_reads 49 = .ok (.getfield 46, 3) := by decide +kernel
theorem dX12_reads_52 : decode cX12_reads 52 = .ok (.iconst 3, 1) := by decide +kernel
theorem dX12_reads_53 : decode cX12_reads 53 = .ok (.iload_n 2, 1) := by decide +kernel
theorem dX12_reads_54 : decode cX12_reads 54 = .ok (.imul, 1) := by decide +kernel
theorem dX12_reads_55 : decode cX12_reads 55 = .ok (.iconst 2, 1) := by decide +kernel
theorem dX12_reads_56 : decode cX12_reads 56 = .ok (.iadd, 1) := by decide +kernel
theorem dX12_reads_57 : decode cX12_reads 57 = .ok (.iaload, 1) := by decide +kernel
theorem dX12_reads_58 : decode cX12_reads 58 = .ok (.i2l, 1) := by decide +kernel
theorem dX12_reads_59 : decode cX12_reads 59 = .ok (.invokevirtual 422, 3) := by decide +kernel
theorem dX12_reads_62 : decode cX12_reads 62 = .ok (.ireturn, 1) := by decide +kernel
theorem dX12_reading_0 : decode cX12_reading 0 = .ok (.iload_n 1, 1) := by decide +kernel
theorem dX12_reading_1 : decode cX12_reading 1 = .ok (.i2l, 1) := by decide +kernel
theorem dX12_reading_2 : decode cX12_reading 2 = .ok (.lconst 0, 1) := by decide +kernel
theorem dX12_reading_3 : decode cX12_reading 3 = .ok (.ldc2_w 290, 3) := by decide +kernel
theorem dX12_reading_6 : decode cX12_reading 6 = .ok (.invokestatic 222, 3) := by decide +kernel
theorem dX12_reading_9 : decode cX12_reading 9 = .ok (.ifCond .ne 9, 3) := by decide +kernel
theorem dX12_reading_12 : decode cX12_reading 12 = .ok (.aload_n 0, 1) := by decide +kernel
theorem dX12_reading_13 : decode cX12_reading 13 = .ok (.iconst (-1), 1) := by decide +kernel
theorem dX12_reading_14 : decode cX12_reading 14 = .ok (.invokevirtual 226, 3) := by decide +kernel
theorem dX12_reading_17 : decode cX12_reading 17 = .ok (.ireturn, 1) := by decide +kernel
theorem dX12_reading_18 : decode cX12_reading 18 = .ok (.iload_n 2, 1) := by decide +kernel
theorem dX12_reading_19 : decode cX12_reading 19 = .ok (.i2l, 1) := by decide +kernel
theorem dX12_reading_20 : decode cX12_reading 20 = .ok (.ldc2_w 426, 3) := by decide +kernel
theorem dX12_reading_23 : decode cX12_reading 23 = .ok (.ldc2_w 428, 3) := by decide +kernel
theorem dX12_reading_26 : decode cX12_reading 26 = .ok (.invokestatic 232, 3) := by decide +kernel
theorem dX12_reading_29 : decode cX12_reading 29 = .ok (.istore_n 3, 1) := by decide +kernel
theorem dX12_reading_30 : decode cX12_reading 30 = .ok (.iload_n 3, 1) := by decide +kernel
theorem dX12_reading_31 : decode cX12_reading 31 = .ok (.ifCond .eq 9, 3) := by decide +kernel
theorem dX12_reading_34 : decode cX12_reading 34 = .ok (.aload_n 0, 1) := by decide +kernel
theorem dX12_reading_35 : decode cX12_reading 35 = .ok (.iload_n 3, 1) := by decide +kernel
theorem dX12_reading_36 : decode cX12_reading 36 = .ok (.invokevirtual 226, 3) := by decide +kernel
theorem dX12_reading_39 : decode cX12_reading 39 = .ok (.ireturn, 1) := by decide +kernel
theorem dX12_reading_40 : decode cX12_reading 40 = .ok (.aload_n 0, 1) := by decide +kernel
theorem dX12_reading_41 : decode cX12_reading 41 = .ok (.getfield 165, 3) := by decide +kernel
theorem dX12_reading_44 : decode cX12_reading 44 = .ok (.iload_n 1, 1) := by decide +kernel
theorem dX12_reading_45 : decode cX12_reading 45 = .ok (.iload_n 2, 1) := by decide +kernel
theorem dX12_reading_46 : decode cX12_reading 46 = .ok (.iastore, 1) := by decide +kernel
theorem dX12_reading_47 : decode cX12_reading 47 = .ok (.iconst 1, 1) := by decide +kernel
theorem dX12_reading_48 : decode cX12_reading 48 = .ok (.ireturn, 1) := by decide +kernel
theorem dX12_trueGas_0 : decode cX12_trueGas 0 = .ok (.iload_n 2, 1) := by decide +kernel
theorem dX12_trueGas_1 : decode cX12_trueGas 1 = .ok (.i2l, 1) := by decide +kernel
theorem dX12_trueGas_2 : decode cX12_trueGas 2 = .ok (.lconst 0, 1) := by decide +kernel
theorem dX12_trueGas_3 : decode cX12_trueGas 3 = .ok (.ldc2_w 430, 3) := by decide +kernel
theorem dX12_trueGas_6 : decode cX12_trueGas 6 = .ok (.invokestatic 222, 3) := by decide +kernel
theorem dX12_trueGas_9 : decode cX12_trueGas 9 = .ok (.ifCond .ne 10, 3) := by decide +kernel
theorem dX12_trueGas_12 : decode cX12_trueGas 12 = .ok (.aload_n 0, 1) := by decide +kernel
theorem dX12_trueGas_13 : decode cX12_trueGas 13 = .ok (.bipush (-2), 2) := by decide +kernel
theorem dX12_trueGas_15 : decode cX12_trueGas 15 = .ok (.invokevirtual 226, 3) := by decide +kernel
theorem dX12_trueGas_18 : decode cX12_trueGas 18 = .ok (.ireturn, 1) := by decide +kernel
theorem dX12_trueGas_19 : decode cX12_trueGas 19 = .ok (.iload_n 1, 1) := by decide +kernel
theorem dX12_trueGas_20 : decode cX12_trueGas 20 = .ok (.i2l, 1) := by decide +kernel
theorem dX12_trueGas_21 : decode cX12_trueGas 21 = .ok (.lconst 0, 1) := by decide +kernel
theorem dX12_trueGas_22 : decode cX12_trueGas 22 = .ok (.ldc2_w 242, 3) := by decide +kernel
theorem dX12_trueGas_25 : decode cX12_trueGas 25 = .ok (.invokestatic 232, 3) := by decide +kernel
theorem dX12_trueGas_28 : decode cX12_trueGas 28 = .ok (.istore_n 3, 1) := by decide +kernel
theorem dX12_trueGas_29 : decode cX12_trueGas 29 = .ok (.iload_n 3, 1) := by decide +kernel
theorem dX12_trueGas_30 : decode cX12_trueGas 30 = .ok (.ifCond .eq 9, 3) := by decide +kernel
theorem dX12_trueGas_33 : decode cX12_trueGas 33 = .ok (.aload_n 0, 1) := by decide +kernel
theorem dX12_trueGas_34 : decode cX12_trueGas 34 = .ok (.iload_n 3, 1) := by decide +kernel
theorem dX12_trueGas_35 : decode cX12_trueGas 35 = .ok (.invokevirtual 226, 3) := by decide +kernel
theorem dX12_trueGas_38 : decode cX12_trueGas 38 = .ok (.ireturn, 1) := by decide +kernel
theorem dX12_trueGas_39 : decode cX12_trueGas 39 = .ok (.iload_n 2, 1) := by decide +kernel
theorem dX12_trueGas_40 : decode cX12_trueGas 40 = .ok (.bipush 7, 2) := by decide +kernel
theorem dX12_trueGas_42 : decode cX12_trueGas 42 = .ok (.if_icmp .ne 8, 3) := by decide +kernel
theorem dX12_trueGas_45 : decode cX12_trueGas 45 = .ok (.aload_n 0, 1) := by decide +kernel
theorem dX12_trueGas_46 : decode cX12_trueGas 46 = .ok (.invokevirtual 432, 3) := by decide +kernel
theorem dX12_trueGas_49 : decode cX12_trueGas 49 = .ok (.ireturn, 1) := by decide +kernel
theorem dX12_trueGas_50 : decode cX12_trueGas 50 = .ok (.iconst 0, 1) := by decide +kernel
theorem dX12_trueGas_51 : decode cX12_trueGas 51 = .ok (.istore 4, 2) := by decide +kernel
theorem dX12_trueGas_53 : decode cX12_trueGas 53 = .ok (.bipush (-9), 2) := by decide +kernel
theorem dX12_trueGas_55 : decode cX12_trueGas 55 = .ok (.istore 5, 2) := by decide +kernel
theorem dX12_trueGas_57 : decode cX12_trueGas 57 = .ok (.bipush (-9), 2) := by decide +kernel
theorem dX12_trueGas_59 : decode cX12_trueGas 59 = .ok (.istore 6, 2) := by decide +kernel
theorem dX12_trueGas_61 : decode cX12_trueGas 61 = .ok (.iconst 0, 1) := by decide +kernel
theorem dX12_trueGas_62 : decode cX12_trueGas 62 = .ok (.istore 7, 2) := by decide +kernel
theorem dX12_trueGas_64 : decode cX12_trueGas 64 = .ok (.iload 7, 2) := by decide +kernel
theorem dX12_trueGas_66 : decode cX12_trueGas 66 = .ok (.ldc_w 435, 3) := by decide +kernel
theorem dX12_trueGas_69 : decode cX12_trueGas 69 = .ok (.if_icmp .ge 191, 3) := by decide +kernel
theorem dX12_trueGas_72 : decode cX12_trueGas 72 = .ok (.iload 7, 2) := by decide +kernel
theorem dX12_trueGas_74 : decode cX12_trueGas 74 = .ok (.sipush 1681, 3) := by decide +kernel
theorem dX12_trueGas_77 : decode cX12_trueGas 77 = .ok (.idiv, 1) := by decide +kernel
theorem dX12_trueGas_78 : decode cX12_trueGas 78 = .ok (.istore 8, 2) := by decide +kernel
theorem dX12_trueGas_80 : decode cX12_trueGas 80 = .ok (.iload 7, 2) := by decide +kernel
theorem dX12_trueGas_82 : decode cX12_trueGas 82 = .ok (.bipush 41, 2) := by decide +kernel
theorem dX12_trueGas_84 : decode cX12_trueGas 84 = .ok (.idiv, 1) := by decide +kernel
theorem dX12_trueGas_85 : decode cX12_trueGas 85 = .ok (.bipush 41, 2) := by decide +kernel
theorem dX12_trueGas_87 : decode cX12_trueGas 87 = .ok (.irem, 1) := by decide +kernel
theorem dX12_trueGas_88 : decode cX12_trueGas 88 = .ok (.istore 9, 2) := by decide +kernel
theorem dX12_trueGas_90 : decode cX12_trueGas 90 = .ok (.iload 7, 2) := by decide +kernel
theorem dX12_trueGas_92 : decode cX12_trueGas 92 = .ok (.bipush 41, 2) := by decide +kernel
theorem dX12_trueGas_94 : decode cX12_trueGas 94 = .ok (.irem, 1) := by decide +kernel
theorem dX12_trueGas_95 : decode cX12_trueGas 95 = .ok (.istore 10, 2) := by decide +kernel
theorem dX12_trueGas_97 : decode cX12_trueGas 97 = .ok (.iconst 1, 1) := by decide +kernel
theorem dX12_trueGas_98 : decode cX12_trueGas 98 = .ok (.istore 11, 2) := by decide +kernel
theorem dX12_trueGas_100 : decode cX12_trueGas 100 = .ok (.iconst 0, 1) := by decide +kernel
theorem dX12_trueGas_101 : decode cX12_trueGas 101 = .ok (.istore 12, 2) := by decide +kernel
theorem dX12_trueGas_103 : decode cX12_trueGas 103 = .ok (.iload 12, 2) := by decide +kernel
theorem dX12_trueGas_105 : decode cX12_trueGas 105 = .ok (.iconst 3, 1) := by decide +kernel
theorem dX12_trueGas_106 : decode cX12_trueGas 106 = .ok (.if_icmp .ge 66, 3) := by decide +kernel
theorem dX12_trueGas_109 : decode cX12_trueGas 109 = .ok (.iload 11, 2) := by decide +kernel
theorem dX12_trueGas_111 : decode cX12_trueGas 111 = .ok (.ifCond .eq 52, 3) := by decide +kernel
theorem dX12_trueGas_114 : decode cX12_trueGas 114 = .ok (.aload_n 0, 1) := by decide +kernel
theorem dX12_trueGas_115 : decode cX12_trueGas 115 = .ok (.getfield 165, 3) := by decide +kernel
theorem dX12_trueGas_118 : decode cX12_trueGas 118 = .ok (.iload 12, 2) := by decide +kernel
theorem dX12_trueGas_120 : decode cX12_trueGas 120 = .ok (.iaload, 1) := by decide +kernel
theorem dX12_trueGas_121 : decode cX12_trueGas 121 = .ok (.ifCond .lt 38, 3) := by decide +kernel
theorem dX12_trueGas_124 : decode cX12_trueGas 124 = .ok (.aload_n 0, 1) := by decide +kernel
theorem dX12_trueGas_125 : decode cX12_trueGas 125 = .ok (.iload 12, 2) := by decide +kernel
theorem dX12_trueGas_127 : decode cX12_trueGas 127 = .ok (.iload 8, 2) := by decide +kernel
theorem dX12_trueGas_129 : decode cX12_trueGas 129 = .ok (.i2l, 1) := by decide +kernel
theorem dX12_trueGas_130 : decode cX12_trueGas 130 = .ok (.iload 9, 2) := by decide +kernel
theorem dX12_trueGas_132 : decode cX12_trueGas 132 = .ok (.i2l, 1) := by decide +kernel
theorem dX12_trueGas_133 : decode cX12_trueGas 133 = .ok (.iload 10, 2) := by decide +kernel
theorem dX12_trueGas_135 : decode cX12_trueGas 135 = .ok (.i2l, 1) := by decide +kernel
theorem dX12_trueGas_136 : decode cX12_trueGas 136 = .ok (.invokevirtual 422, 3) := by decide +kernel
theorem dX12_trueGas_139 : decode cX12_trueGas 139 = .ok (.aload_n 0, 1) := by decide +kernel
theorem dX12_trueGas_140 : decode cX12_trueGas 140 = .ok (.getfield 165, 3) := by decide +kernel
theorem dX12_trueGas_143 : decode cX12_trueGas 143 = .ok (.iload 12, 2) := by decide +kernel
theorem dX12_trueGas_145 : decode cX12_trueGas 145 = .ok (.iaload, 1) := by decide +kernel
theorem dX12_trueGas_146 : decode cX12_trueGas 146 = .ok (.isub, 1) := by decide +kernel
theorem dX12_trueGas_147 : decode cX12_trueGas 147 = .ok (.i2l, 1) := by decide +kernel
theorem dX12_trueGas_148 : decode cX12_trueGas 148 = .ok (.iload_n 1, 1) := by decide +kernel
theorem dX12_trueGas_149 : decode cX12_trueGas 149 = .ok (.ineg, 1) := by decide +kernel
theorem dX12_trueGas_150 : decode cX12_trueGas 150 = .ok (.i2l, 1) := by decide +kernel
theorem dX12_trueGas_151 : decode cX12_trueGas 151 = .ok (.iload_n 1, 1) := by decide +kernel
theorem dX12_trueGas_152 : decode cX12_trueGas 152 = .ok (.i2l, 1) := by decide +kernel
theorem dX12_trueGas_153 : decode cX12_trueGas 153 = .ok (.invokestatic 222, 3) := by decide +kernel
theorem dX12_trueGas_156 : decode cX12_trueGas 156 = .ok (.ifCond .eq 7, 3) := by decide +kernel
theorem dX12_trueGas_159 : decode cX12_trueGas 159 = .ok (.iconst 1, 1) := by decide +kernel
theorem dX12_trueGas_160 : decode cX12_trueGas 160 = .ok (.goto 4, 3) := by decide +kernel
theorem dX12_trueGas_163 : decode cX12_trueGas 163 = .ok (.iconst 0, 1) := by decide +kernel
theorem dX12_trueGas_164 : decode cX12_trueGas 164 = .ok (.istore 11, 2) := by decide +kernel
theorem dX12_trueGas_166 : decode cX12_trueGas 166 = .ok (.iinc 12 1, 3) := by decide +kernel
theorem dX12_trueGas_169 : decode cX12_trueGas 169 = .ok (.goto (-66), 3) := by decide +kernel
theorem dX12_trueGas_172 : decode cX12_trueGas 172 = .ok (.iload 11, 2) := by decide +kernel
theorem dX12_trueGas_174 : decode cX12_trueGas 174 = .ok (.ifCond .ne 6, 3) := by decide +kernel
theorem dX12_trueGas_177 : decode cX12_trueGas 177 = .ok (.goto 77, 3) := by decide +kernel
theorem dX12_trueGas_180 : decode cX12_trueGas 180 = .ok (.iload_n 2, 1) := by decide +kernel
theorem dX12_trueGas_181 : decode cX12_trueGas 181 = .ok (.iconst 1, 1) := by decide +kernel
theorem dX12_trueGas_182 : decode cX12_trueGas 182 = .ok (.if_icmp .eq 8, 3) := by decide +kernel
theorem dX12_trueGas_185 : decode cX12_trueGas 185 = .ok (.iload_n 2, 1) := by decide +kernel
theorem dX12_trueGas_186 : decode cX12_trueGas 186 = .ok (.iconst 4, 1) := by decide +kernel
theorem dX12_trueGas_187 : decode cX12_trueGas 187 = .ok (.if_icmp .ne 8, 3) := by decide +kernel
theorem dX12_trueGas_190 : decode cX12_trueGas 190 = .ok (.iload 8, 2) := by decide +kernel
theorem dX12_trueGas_192 : decode cX12_trueGas 192 = .ok (.goto 20, 3) := by decide +kernel
theorem dX12_trueGas_195 : decode cX12_trueGas 195 = .ok (.iload_n 2, 1) := by decide +kernel
theorem dX12_trueGas_196 : decode cX12_trueGas 196 = .ok (.iconst 2, 1) := by decide +kernel
theorem dX12_trueGas_197 : decode cX12_trueGas 197 = .ok (.if_icmp .eq 8, 3) := by decide +kernel
theorem dX12_trueGas_200 : decode cX12_trueGas 200 = .ok (.iload_n 2, 1) := by decide +kernel
theorem dX12_trueGas_201 : decode cX12_trueGas 201 = .ok (.iconst 5, 1) := by decide +kernel
theorem dX12_trueGas_202 : decode cX12_trueGas 202 = .ok (.if_icmp .ne 8, 3) := by decide +kernel
theorem dX12_trueGas_205 : decode cX12_trueGas 205 = .ok (.iload 9, 2) := by decide +kernel
theorem dX12_trueGas_207 : decode cX12_trueGas 207 = .ok (.goto 5, 3) := by decide +kernel
theorem dX12_trueGas_210 : decode cX12_trueGas 210 = .ok (.iload 10, 2) := by decide +kernel
theorem dX12_trueGas_212 : decode cX12_trueGas 212 = .ok (.istore 12, 2) := by decide +kernel
theorem dX12_trueGas_214 : decode cX12_trueGas 214 = .ok (.iload 4, 2) := by decide +kernel
theorem dX12_trueGas_216 : decode cX12_trueGas 216 = .ok (.ifCond .eq 10, 3) := by decide +kernel
theorem dX12_trueGas_219 : decode cX12_trueGas 219 = .ok (.iload 12, 2) := by decide +kernel
theorem dX12_trueGas_221 : decode cX12_trueGas 221 = .ok (.iload 5, 2) := by decide +kernel
theorem dX12_trueGas_223 : decode cX12_trueGas 223 = .ok (.if_icmp .ge 8, 3) := by decide +kernel
theorem dX12_trueGas_226 : decode cX12_trueGas 226 = .ok (.iload 12, 2) := by decide +kernel
theorem dX12_trueGas_228 : decode cX12_trueGas 228 = .ok (.goto 5, 3) := by decide +kernel
theorem dX12_trueGas_231 : decode cX12_trueGas 231 = .ok (.iload 5, 2) := by decide +kernel
theorem dX12_trueGas_233 : decode cX12_trueGas 233 = .ok (.istore 5, 2) := by decide +kernel
theorem dX12_trueGas_235 : decode cX12_trueGas 235 = .ok (.iload 12, 2) := by decide +kernel
theorem dX12_trueGas_237 : decode cX12_trueGas 237 = .ok (.iload 6, 2) := by decide +kernel
theorem dX12_trueGas_239 : decode cX12_trueGas 239 = .ok (.if_icmp .le 8, 3) := by decide +kernel
theorem dX12_trueGas_242 : decode cX12_trueGas 242 = .ok (.iload 12, 2) := by decide +kernel
theorem dX12_trueGas_244 : decode cX12_trueGas 244 = .ok (.goto 5, 3) := by decide +kernel
theorem dX12_trueGas_247 : decode cX12_trueGas 247 = .ok (.iload 6, 2) := by decide +kernel
theorem dX12_trueGas_249 : decode cX12_trueGas 249 = .ok (.istore 6, 2) := by decide +kernel
theorem dX12_trueGas_251 : decode cX12_trueGas 251 = .ok (.iinc 4 1, 3) := by decide +kernel
theorem dX12_trueGas_254 : decode cX12_trueGas 254 = .ok (.iinc 7 1, 3) := by decide +kernel
theorem dX12_trueGas_257 : decode cX12_trueGas 257 = .ok (.goto (-193), 3) := by decide +kernel
theorem dX12_trueGas_260 : decode cX12_trueGas 260 = .ok (.iload_n 2, 1) := by decide +kernel
theorem dX12_trueGas_261 : decode cX12_trueGas 261 = .ok (.ifCond .ne 8, 3) := by decide +kernel
theorem dX12_trueGas_264 : decode cX12_trueGas 264 = .ok (.iload 4, 2) := by decide +kernel
theorem dX12_trueGas_266 : decode cX12_trueGas 266 = .ok (.goto 15, 3) := by decide +kernel
theorem dX12_trueGas_269 : decode cX12_trueGas 269 = .ok (.iload_n 2, 1) := by decide +kernel
theorem dX12_trueGas_270 : decode cX12_trueGas 270 = .ok (.iconst 4, 1) := by decide +kernel
theorem dX12_trueGas_271 : decode cX12_trueGas 271 = .ok (.if_icmp .ge 8, 3) := by decide +kernel
theorem dX12_trueGas_274 : decode cX12_trueGas 274 = .ok (.iload 5, 2) := by decide +kernel
theorem dX12_trueGas_276 : decode cX12_trueGas 276 = .ok (.goto 5, 3) := by decide +kernel
theorem dX12_trueGas_279 : decode cX12_trueGas 279 = .ok (.iload 6, 2) := by decide +kernel
theorem dX12_trueGas_281 : decode cX12_trueGas 281 = .ok (.ireturn, 1) := by decide +kernel
theorem dX12_hidden_0 : decode cX12_hidden 0 = .ok (.iconst 0, 1) := by decide +kernel
theorem dX12_hidden_1 : decode cX12_hidden 1 = .ok (.istore_n 1, 1) := by decide +kernel
theorem dX12_hidden_2 : decode cX12_hidden 2 = .ok (.iconst 0, 1) := by decide +kernel
theorem dX12_hidden_3 : decode cX12_hidden 3 = .ok (.istore_n 2, 1) := by decide +kernel
theorem dX12_hidden_4 : decode cX12_hidden 4 = .ok (.iload_n 2, 1) := by decide +kernel
theorem dX12_hidden_5 : decode cX12_hidden 5 = .ok (.iconst 3, 1) := by decide +kernel
theorem dX12_hidden_6 : decode cX12_hidden 6 = .ok (.if_icmp .ge 74, 3) := by decide +kernel
theorem dX12_hidden_9 : decode cX12_hidden 9 = .ok (.iconst 0, 1) := by decide +kernel
theorem dX12_hidden_10 : decode cX12_hidden 10 = .ok (.istore_n 3, 1) := by decide +kernel
theorem dX12_hidden_11 : decode cX12_hidden 11 = .ok (.iconst 0, 1) := by decide +kernel
theorem dX12_hidden_12 : decode cX12_hidden 12 = .ok (.istore 4, 2) := by decide +kernel
theorem dX12_hidden_14 : decode cX12_hidden 14 = .ok (.iload 4, 2) := by decide +kernel
theorem dX12_hidden_16 : decode cX12_hidden 16 = .ok (.iconst 3, 1) := by decide +kernel
theorem dX12_hidden_17 : decode cX12_hidden 17 = .ok (.if_icmp .ge 43, 3) := by decide +kernel
theorem dX12_hidden_20 : decode cX12_hidden 20 = .ok (.iload_n 3, 1) := by decide +kernel
theorem dX12_hidden_21 : decode cX12_hidden 21 = .ok (.ifCond .ne 27, 3) := by decide +kernel
theorem dX12_hidden_24 : decode cX12_hidden 24 = .ok (.aload_n 0, 1) := by decide +kernel
theorem dX12_hidden_25 : decode cX12_hidden 25 = .ok (.getfield 165, 3) := by decide +kernel
theorem dX12_hidden_28 : decode cX12_hidden 28 = .ok (.iload 4, 2) := by decide +kernel
theorem dX12_hidden_30 : decode cX12_hidden 30 = .ok (.iaload, 1) := by decide +kernel
theorem dX12_hidden_31 : decode cX12_hidden 31 = .ok (.ifCond .lt 21, 3) := by decide +kernel
theorem dX12_hidden_34 : decode cX12_hidden 34 = .ok (.aload_n 0, 1) := by decide +kernel
theorem dX12_hidden_35 : decode cX12_hidden 35 = .ok (.getfield 162, 3) := by decide +kernel
theorem dX12_hidden_38 : decode cX12_hidden 38 = .ok (.iconst 3, 1) := by decide +kernel
theorem dX12_hidden_39 : decode cX12_hidden 39 = .ok (.iload 4, 2) := by decide +kernel
theorem dX12_hidden_41 : decode cX12_hidden 41 = .ok (.imul, 1) := by decide +kernel
theorem dX12_hidden_42 : decode cX12_hidden 42 = .ok (.iload_n 2, 1) := by decide +kernel
theorem dX12_hidden_43 : decode cX12_hidden 43 = .ok (.iadd, 1) := by decide +kernel
theorem dX12_hidden_44 : decode cX12_hidden 44 = .ok (.iaload, 1) := by decide +kernel
theorem dX12_hidden_45 : decode cX12_hidden 45 = .ok (.ifCond .le 7, 3) := by decide +kernel
theorem dX12_hidden_48 : decode cX12_hidden 48 = .ok (.iconst 1, 1) := by decide +kernel
theorem dX12_hidden_49 : decode cX12_hidden 49 = .ok (.goto 4, 3) := by decide +kernel
theorem dX12_hidden_52 : decode cX12_hidden 52 = .ok (.iconst 0, 1) := by decide +kernel
theorem dX12_hidden_53 : decode cX12_hidden 53 = .ok (.istore_n 3, 1) := by decide +kernel
theorem dX12_hidden_54 : decode cX12_hidden 54 = .ok (.iinc 4 1, 3) := by decide +kernel
theorem dX12_hidden_57 : decode cX12_hidden 57 = .ok (.goto (-43), 3) := by decide +kernel
theorem dX12_hidden_60 : decode cX12_hidden 60 = .ok (.iload_n 1, 1) := by decide +kernel
theorem dX12_hidden_61 : decode cX12_hidden 61 = .ok (.iload_n 3, 1) := by decide +kernel
theorem dX12_hidden_62 : decode cX12_hidden 62 = .ok (.ifCond .eq 7, 3) := by decide +kernel
theorem dX12_hidden_65 : decode cX12_hidden 65 = .ok (.iconst 0, 1) := by decide +kernel
theorem dX12_hidden_66 : decode cX12_hidden 66 = .ok (.goto 6, 3) := by decide +kernel
theorem dX12_hidden_69 : decode cX12_hidden 69 = .ok (.iconst 1, 1) := by decide +kernel
theorem dX12_hidden_70 : decode cX12_hidden 70 = .ok (.iload_n 2, 1) := by decide +kernel
theorem dX12_hidden_71 : decode cX12_hidden 71 = .ok (.ishl, 1) := by decide +kernel
theorem dX12_hidden_72 : decode cX12_hidden 72 = .ok (.ior, 1) := by decide +kernel
theorem dX12_hidden_73 : decode cX12_hidden 73 = .ok (.istore_n 1, 1) := by decide +kernel
theorem dX12_hidden_74 : decode cX12_hidden 74 = .ok (.iinc 2 1, 3) := by decide +kernel
theorem dX12_hidden_77 : decode cX12_hidden 77 = .ok (.goto (-73), 3) := by decide +kernel
theorem dX12_hidden_80 : decode cX12_hidden 80 = .ok (.iload_n 1, 1) := by decide +kernel
theorem dX12_hidden_81 : decode cX12_hidden 81 = .ok (.ireturn, 1) := by decide +kernel
theorem dX12_stage_0 : decode cX12_stage 0 = .ok (.iload_n 1, 1) := by decide +kernel
theorem dX12_stage_1 : decode cX12_stage 1 = .ok (.i2l, 1) := by decide +kernel
theorem dX12_stage_2 : decode cX12_stage 2 = .ok (.lconst 0, 1) := by decide +kernel
theorem dX12_stage_3 : decode cX12_stage 3 = .ok (.ldc2_w 220, 3) := by decide +kernel
theorem dX12_stage_6 : decode cX12_stage 6 = .ok (.invokestatic 222, 3) := by decide +kernel
theorem dX12_stage_9 : decode cX12_stage 9 = .ok (.ifCond .ne 9, 3) := by decide +kernel
theorem dX12_stage_12 : decode cX12_stage 12 = .ok (.aload_n 0, 1) := by decide +kernel
theorem dX12_stage_13 : decode cX12_stage 13 = .ok (.iconst (-1), 1) := by decide +kernel
theorem dX12_stage_14 : decode cX12_stage 14 = .ok (.invokevirtual 226, 3) := by decide +kernel
theorem dX12_stage_17 : decode cX12_stage 17 = .ok (.ireturn, 1) := by decide +kernel
theorem dX12_stage_18 : decode cX12_stage 18 = .ok (.iload_n 2, 1) := by decide +kernel
theorem dX12_stage_19 : decode cX12_stage 19 = .ok (.ifCond .lt 18, 3) := by decide +kernel
theorem dX12_stage_22 : decode cX12_stage 22 = .ok (.iload_n 3, 1) := by decide +kernel
theorem dX12_stage_23 : decode cX12_stage 23 = .ok (.iconst 1, 1) := by decide +kernel
theorem dX12_stage_24 : decode cX12_stage 24 = .ok (.if_icmp .lt 13, 3) := by decide +kernel
theorem dX12_stage_27 : decode cX12_stage 27 = .ok (.iload 4, 2) := by decide +kernel
theorem dX12_stage_29 : decode cX12_stage 29 = .ok (.ifCond .lt 8, 3) := by decide +kernel
theorem dX12_stage_32 : decode cX12_stage 32 = .ok (.iload 5, 2) := by decide +kernel
theorem dX12_stage_34 : decode cX12_stage 34 = .ok (.ifCond .ge 8, 3) := by decide +kernel
theorem dX12_stage_37 : decode cX12_stage 37 = .ok (.bipush (-4), 2) := by decide +kernel
theorem dX12_stage_39 : decode cX12_stage 39 = .ok (.goto 37, 3) := by decide +kernel
theorem dX12_stage_42 : decode cX12_stage 42 = .ok (.iload_n 2, 1) := by decide +kernel
theorem dX12_stage_43 : decode cX12_stage 43 = .ok (.sipush 299, 3) := by decide +kernel
theorem dX12_stage_46 : decode cX12_stage 46 = .ok (.if_icmp .gt 24, 3) := by decide +kernel
theorem dX12_stage_49 : decode cX12_stage 49 = .ok (.iload_n 3, 1) := by decide +kernel
theorem dX12_stage_50 : decode cX12_stage 50 = .ok (.bipush 99, 2) := by decide +kernel
theorem dX12_stage_52 : decode cX12_stage 52 = .ok (.if_icmp .gt 18, 3) := by decide +kernel
theorem dX12_stage_55 : decode cX12_stage 55 = .ok (.iload 4, 2) := by decide +kernel
theorem dX12_stage_57 : decode cX12_stage 57 = .ok (.bipush 99, 2) := by decide +kernel
theorem dX12_stage_59 : decode cX12_stage 59 = .ok (.if_icmp .gt 11, 3) := by decide +kernel
theorem dX12_stage_62 : decode cX12_stage 62 = .ok (.iload 5, 2) := by decide +kernel
theorem dX12_stage_64 : decode cX12_stage 64 = .ok (.sipush 9999, 3) := by decide +kernel
theorem dX12_stage_67 : decode cX12_stage 67 = .ok (.if_icmp .le 8, 3) := by decide +kernel
theorem dX12_stage_70 : decode cX12_stage 70 = .ok (.bipush (-6), 2) := by decide +kernel
theorem dX12_stage_72 : decode cX12_stage 72 = .ok (.goto 4, 3) := by decide +kernel
theorem dX12_stage_75 : decode cX12_stage 75 = .ok (.iconst 0, 1) := by decide +kernel
theorem dX12_stage_76 : decode cX12_stage 76 = .ok (.istore 6, 2) := by decide +kernel
theorem dX12_stage_78 : decode cX12_stage 78 = .ok (.iload 6, 2) := by decide +kernel
theorem dX12_stage_80 : decode cX12_stage 80 = .ok (.ifCond .eq 10, 3) := by decide +kernel
theorem dX12_stage_83 : decode cX12_stage 83 = .ok (.aload_n 0, 1) := by decide +kernel
theorem dX12_stage_84 : decode cX12_stage 84 = .ok (.iload 6, 2) := by decide +kernel
theorem dX12_stage_86 : decode cX12_stage 86 = .ok (.invokevirtual 226, 3) := by decide +kernel
theorem dX12_stage_89 : decode cX12_stage 89 = .ok (.ireturn, 1) := by decide +kernel
theorem dX12_stage_90 : decode cX12_stage 90 = .ok (.aload_n 0, 1) := by decide +kernel
theorem dX12_stage_91 : decode cX12_stage 91 = .ok (.getfield 168, 3) := by decide +kernel
theorem dX12_stage_94 : decode cX12_stage 94 = .ok (.iload_n 1, 1) := by decide +kernel
theorem dX12_stage_95 : decode cX12_stage 95 = .ok (.iload_n 2, 1) := by decide +kernel
theorem dX12_stage_96 : decode cX12_stage 96 = .ok (.iastore, 1) := by decide +kernel
theorem dX12_stage_97 : decode cX12_stage 97 = .ok (.aload_n 0, 1) := by decide +kernel
theorem dX12_stage_98 : decode cX12_stage 98 = .ok (.getfield 171, 3) := by decide +kernel
theorem dX12_stage_101 : decode cX12_stage 101 = .ok (.iload_n 1, 1) := by decide +kernel
theorem dX12_stage_102 : decode cX12_stage 102 = .ok (.iload_n 3, 1) := by decide +kernel
theorem dX12_stage_103 : decode cX12_stage 103 = .ok (.iastore, 1) := by decide +kernel
theorem dX12_stage_104 : decode cX12_stage 104 = .ok (.aload_n 0, 1) := by decide +kernel
theorem dX12_stage_105 : decode cX12_stage 105 = .ok (.getfield 174, 3) := by decide +kernel
theorem dX12_stage_108 : decode cX12_stage 108 = .ok (.iload_n 1, 1) := by decide +kernel
theorem dX12_stage_109 : decode cX12_stage 109 = .ok (.iload 4, 2) := by decide +kernel
theorem dX12_stage_111 : decode cX12_stage 111 = .ok (.iastore, 1) := by decide +kernel
theorem dX12_stage_112 : decode cX12_stage 112 = .ok (.aload_n 0, 1) := by decide +kernel
theorem dX12_stage_113 : decode cX12_stage 113 = .ok (.getfield 177, 3) := by decide +kernel
theorem dX12_stage_116 : decode cX12_stage 116 = .ok (.iload_n 1, 1) := by decide +kernel
theorem dX12_stage_117 : decode cX12_stage 117 = .ok (.iload 5, 2) := by decide +kernel
theorem dX12_stage_119 : decode cX12_stage 119 = .ok (.iastore, 1) := by decide +kernel
theorem dX12_stage_120 : decode cX12_stage 120 = .ok (.iconst 1, 1) := by decide +kernel
theorem dX12_stage_121 : decode cX12_stage 121 = .ok (.ireturn, 1) := by decide +kernel
theorem dX12_left_0 : decode cX12_left 0 = .ok (.aload_n 0, 1) := by decide +kernel
theorem dX12_left_1 : decode cX12_left 1 = .ok (.getfield 171, 3) := by decide +kernel
theorem dX12_left_4 : decode cX12_left 4 = .ok (.iload_n 1, 1) := by decide +kernel
theorem dX12_left_5 : decode cX12_left 5 = .ok (.iaload, 1) := by decide +kernel
theorem dX12_left_6 : decode cX12_left 6 = .ok (.iload_n 2, 1) := by decide +kernel
theorem dX12_left_7 : decode cX12_left 7 = .ok (.aload_n 0, 1) := by decide +kernel
theorem dX12_left_8 : decode cX12_left 8 = .ok (.getfield 168, 3) := by decide +kernel
theorem dX12_left_11 : decode cX12_left 11 = .ok (.iload_n 1, 1) := by decide +kernel
theorem dX12_left_12 : decode cX12_left 12 = .ok (.iaload, 1) := by decide +kernel
theorem dX12_left_13 : decode cX12_left 13 = .ok (.isub, 1) := by decide +kernel
theorem dX12_left_14 : decode cX12_left 14 = .ok (.imul, 1) := by decide +kernel
theorem dX12_left_15 : decode cX12_left 15 = .ok (.iload_n 3, 1) := by decide +kernel
theorem dX12_left_16 : decode cX12_left 16 = .ok (.iload_n 2, 1) := by decide +kernel
theorem dX12_left_17 : decode cX12_left 17 = .ok (.if_icmp .le 16, 3) := by decide +kernel
theorem dX12_left_20 : decode cX12_left 20 = .ok (.aload_n 0, 1) := by decide +kernel
theorem dX12_left_21 : decode cX12_left 21 = .ok (.getfield 174, 3) := by decide +kernel
theorem dX12_left_24 : decode cX12_left 24 = .ok (.iload_n 1, 1) := by decide +kernel
theorem dX12_left_25 : decode cX12_left 25 = .ok (.iaload, 1) := by decide +kernel
theorem dX12_left_26 : decode cX12_left 26 = .ok (.iload_n 3, 1) := by decide +kernel
theorem dX12_left_27 : decode cX12_left 27 = .ok (.iload_n 2, 1) := by decide +kernel
theorem dX12_left_28 : decode cX12_left 28 = .ok (.isub, 1) := by decide +kernel
theorem dX12_left_29 : decode cX12_left 29 = .ok (.imul, 1) := by decide +kernel
theorem dX12_left_30 : decode cX12_left 30 = .ok (.goto 4, 3) := by decide +kernel
theorem dX12_left_33 : decode cX12_left 33 = .ok (.iconst 0, 1) := by decide +kernel
theorem dX12_left_34 : decode cX12_left 34 = .ok (.isub, 1) := by decide +kernel
theorem dX12_left_35 : decode cX12_left 35 = .ok (.ireturn, 1) := by decide +kernel
theorem dX12_rests_0 : decode cX12_rests 0 = .ok (.sipush 300, 3) := by decide +kernel
theorem dX12_rests_3 : decode cX12_rests 3 = .ok (.istore_n 2, 1) := by decide +kernel
theorem dX12_rests_4 : decode cX12_rests 4 = .ok (.iconst 0, 1) := by decide +kernel
theorem dX12_rests_5 : decode cX12_rests 5 = .ok (.istore_n 3, 1) := by decide +kernel
theorem dX12_rests_6 : decode cX12_rests 6 = .ok (.iload_n 3, 1) := by decide +kernel
theorem dX12_rests_7 : decode cX12_rests 7 = .ok (.iload_n 1, 1) := by decide +kernel
theorem dX12_rests_8 : decode cX12_rests 8 = .ok (.if_icmp .gt 62, 3) := by decide +kernel
theorem dX12_rests_11 : decode cX12_rests 11 = .ok (.aload_n 0, 1) := by decide +kernel
theorem dX12_rests_12 : decode cX12_rests 12 = .ok (.getfield 168, 3) := by decide +kernel
theorem dX12_rests_15 : decode cX12_rests 15 = .ok (.iload_n 3, 1) := by decide +kernel
theorem dX12_rests_16 : decode cX12_rests 16 = .ok (.iaload, 1) := by decide +kernel
theorem dX12_rests_17 : decode cX12_rests 17 = .ok (.istore 4, 2) := by decide +kernel
theorem dX12_rests_19 : decode cX12_rests 19 = .ok (.iload 4, 2) := by decide +kernel
theorem dX12_rests_21 : decode cX12_rests 21 = .ok (.sipush 300, 3) := by decide +kernel
theorem dX12_rests_24 : decode cX12_rests 24 = .ok (.if_icmp .gt 26, 3) := by decide +kernel
theorem dX12_rests_27 : decode cX12_rests 27 = .ok (.aload_n 0, 1) := by decide +kernel
theorem dX12_rests_28 : decode cX12_rests 28 = .ok (.iload_n 3, 1) := by decide +kernel
theorem dX12_rests_29 : decode cX12_rests 29 = .ok (.iload 4, 2) := by decide +kernel
theorem dX12_rests_31 : decode cX12_rests 31 = .ok (.iload_n 2, 1) := by decide +kernel
theorem dX12_rests_32 : decode cX12_rests 32 = .ok (.invokevirtual 436, 3) := by decide +kernel
theorem dX12_rests_35 : decode cX12_rests 35 = .ok (.aload_n 0, 1) := by decide +kernel
theorem dX12_rests_36 : decode cX12_rests 36 = .ok (.getfield 177, 3) := by decide +kernel
theorem dX12_rests_39 : decode cX12_rests 39 = .ok (.iload_n 3, 1) := by decide +kernel
theorem dX12_rests_40 : decode cX12_rests 40 = .ok (.iaload, 1) := by decide +kernel
theorem dX12_rests_41 : decode cX12_rests 41 = .ok (.if_icmp .ge 9, 3) := by decide +kernel
theorem dX12_rests_44 : decode cX12_rests 44 = .ok (.iinc 4 1, 3) := by decide +kernel
theorem dX12_rests_47 : decode cX12_rests 47 = .ok (.goto (-28), 3) := by decide +kernel
theorem dX12_rests_50 : decode cX12_rests 50 = .ok (.iload 4, 2) := by decide +kernel
theorem dX12_rests_52 : decode cX12_rests 52 = .ok (.sipush 300, 3) := by decide +kernel
theorem dX12_rests_55 : decode cX12_rests 55 = .ok (.if_icmp .le 6, 3) := by decide +kernel
theorem dX12_rests_58 : decode cX12_rests 58 = .ok (.bipush (-9), 2) := by decide +kernel
theorem dX12_rests_60 : decode cX12_rests 60 = .ok (.ireturn, 1) := by decide +kernel
theorem dX12_rests_61 : decode cX12_rests 61 = .ok (.iload 4, 2) := by decide +kernel
theorem dX12_rests_63 : decode cX12_rests 63 = .ok (.istore_n 2, 1) := by decide +kernel
theorem dX12_rests_64 : decode cX12_rests 64 = .ok (.iinc 3 1, 3) := by decide +kernel
theorem dX12_rests_67 : decode cX12_rests 67 = .ok (.goto (-61), 3) := by decide +kernel
theorem dX12_rests_70 : decode cX12_rests 70 = .ok (.iload_n 2, 1) := by decide +kernel
theorem dX12_rests_71 : decode cX12_rests 71 = .ok (.ireturn, 1) := by decide +kernel
theorem dX12_restCold_0 : decode cX12_restCold 0 = .ok (.iload_n 1, 1) := by decide +kernel
theorem dX12_restCold_1 : decode cX12_restCold 1 = .ok (.i2l, 1) := by decide +kernel
theorem dX12_restCold_2 : decode cX12_restCold 2 = .ok (.lconst 0, 1) := by decide +kernel
theorem dX12_restCold_3 : decode cX12_restCold 3 = .ok (.ldc2_w 220, 3) := by decide +kernel
theorem dX12_restCold_6 : decode cX12_restCold 6 = .ok (.invokestatic 222, 3) := by decide +kernel
theorem dX12_restCold_9 : decode cX12_restCold 9 = .ok (.ifCond .eq 11, 3) := by decide +kernel
theorem dX12_restCold_12 : decode cX12_restCold 12 = .ok (.aload_n 0, 1) := by decide +kernel
theorem dX12_restCold_13 : decode cX12_restCold 13 = .ok (.iload_n 1, 1) := by decide +kernel
theorem dX12_restCold_14 : decode cX12_restCold 14 = .ok (.invokevirtual 439, 3) := by decide +kernel
theorem dX12_restCold_17 : decode cX12_restCold 17 = .ok (.goto 8, 3) := by decide +kernel
theorem dX12_restCold_20 : decode cX12_restCold 20 = .ok (.aload_n 0, 1) := by decide +kernel
theorem dX12_restCold_21 : decode cX12_restCold 21 = .ok (.iconst (-1), 1) := by decide +kernel
theorem dX12_restCold_22 : decode cX12_restCold 22 = .ok (.invokevirtual 226, 3) := by decide +kernel
theorem dX12_restCold_25 : decode cX12_restCold 25 = .ok (.ireturn, 1) := by decide +kernel
theorem dX12_load_0 : decode cX12_load 0 = .ok (.iload_n 1, 1) := by decide +kernel
theorem dX12_load_1 : decode cX12_load 1 = .ok (.i2l, 1) := by decide +kernel
theorem dX12_load_2 : decode cX12_load 2 = .ok (.lconst 0, 1) := by decide +kernel
theorem dX12_load_3 : decode cX12_load 3 = .ok (.ldc2_w 220, 3) := by decide +kernel
theorem dX12_load_6 : decode cX12_load 6 = .ok (.invokestatic 222, 3) := by decide +kernel
theorem dX12_load_9 : decode cX12_load 9 = .ok (.ifCond .ne 9, 3) := by decide +kernel
theorem dX12_load_12 : decode cX12_load 12 = .ok (.aload_n 0, 1) := by decide +kernel
theorem dX12_load_13 : decode cX12_load 13 = .ok (.iconst (-1), 1) := by decide +kernel
theorem dX12_load_14 : decode cX12_load 14 = .ok (.invokevirtual 226, 3) := by decide +kernel
theorem dX12_load_17 : decode cX12_load 17 = .ok (.ireturn, 1) := by decide +kernel
theorem dX12_load_18 : decode cX12_load 18 = .ok (.iload_n 2, 1) := by decide +kernel
theorem dX12_load_19 : decode cX12_load 19 = .ok (.i2l, 1) := by decide +kernel
theorem dX12_load_20 : decode cX12_load 20 = .ok (.lconst 0, 1) := by decide +kernel
theorem dX12_load_21 : decode cX12_load 21 = .ok (.ldc2_w 442, 3) := by decide +kernel
theorem dX12_load_24 : decode cX12_load 24 = .ok (.invokestatic 232, 3) := by decide +kernel
theorem dX12_load_27 : decode cX12_load 27 = .ok (.istore_n 3, 1) := by decide +kernel
theorem dX12_load_28 : decode cX12_load 28 = .ok (.iload_n 3, 1) := by decide +kernel
theorem dX12_load_29 : decode cX12_load 29 = .ok (.ifCond .eq 9, 3) := by decide +kernel
theorem dX12_load_32 : decode cX12_load 32 = .ok (.aload_n 0, 1) := by decide +kernel
theorem dX12_load_33 : decode cX12_load 33 = .ok (.iload_n 3, 1) := by decide +kernel
theorem dX12_load_34 : decode cX12_load 34 = .ok (.invokevirtual 226, 3) := by decide +kernel
theorem dX12_load_37 : decode cX12_load 37 = .ok (.ireturn, 1) := by decide +kernel
theorem dX12_load_38 : decode cX12_load 38 = .ok (.iload_n 1, 1) := by decide +kernel
theorem dX12_load_39 : decode cX12_load 39 = .ok (.ifCond .ne 9, 3) := by decide +kernel
theorem dX12_load_42 : decode cX12_load 42 = .ok (.sipush 300, 3) := by decide +kernel
theorem dX12_load_45 : decode cX12_load 45 = .ok (.goto 10, 3) := by decide +kernel
theorem dX12_load_48 : decode cX12_load 48 = .ok (.aload_n 0, 1) := by decide +kernel
theorem dX12_load_49 : decode cX12_load 49 = .ok (.iload_n 1, 1) := by decide +kernel
theorem dX12_load_50 : decode cX12_load 50 = .ok (.iconst 1, 1) := by decide +kernel
theorem dX12_load_51 : decode cX12_load 51 = .ok (.isub, 1) := by decide +kernel
theorem dX12_load_52 : decode cX12_load 52 = .ok (.invokevirtual 439, 3) := by decide +kernel
theorem dX12_load_55 : decode cX12_load 55 = .ok (.istore 4, 2) := by decide +kernel
theorem dX12_load_57 : decode cX12_load 57 = .ok (.iload 4, 2) := by decide +kernel
theorem dX12_load_59 : decode cX12_load 59 = .ok (.ifCond .lt 13, 3) := by decide +kernel
theorem dX12_load_62 : decode cX12_load 62 = .ok (.iload_n 2, 1) := by decide +kernel
theorem dX12_load_63 : decode cX12_load 63 = .ok (.aload_n 0, 1) := by decide +kernel
theorem dX12_load_64 : decode cX12_load 64 = .ok (.getfield 168, 3) := by decide +kernel
theorem dX12_load_67 : decode cX12_load 67 = .ok (.iload_n 1, 1) := by decide +kernel
theorem dX12_load_68 : decode cX12_load 68 = .ok (.iaload, 1) := by decide +kernel
theorem dX12_load_69 : decode cX12_load 69 = .ok (.if_icmp .ge 6, 3) := by decide +kernel
theorem dX12_load_72 : decode cX12_load 72 = .ok (.bipush (-9), 2) := by decide +kernel
theorem dX12_load_74 : decode cX12_load 74 = .ok (.ireturn, 1) := by decide +kernel
theorem dX12_load_75 : decode cX12_load 75 = .ok (.aload_n 0, 1) := by decide +kernel
theorem dX12_load_76 : decode cX12_load 76 = .ok (.iload_n 1, 1) := by decide +kernel
theorem dX12_load_77 : decode cX12_load 77 = .ok (.iload_n 2, 1) := by decide +kernel
theorem dX12_load_78 : decode cX12_load 78 = .ok (.iload 4, 2) := by decide +kernel
theorem dX12_load_80 : decode cX12_load 80 = .ok (.invokevirtual 436, 3) := by decide +kernel
theorem dX12_load_83 : decode cX12_load 83 = .ok (.istore 5, 2) := by decide +kernel
theorem dX12_load_85 : decode cX12_load 85 = .ok (.iload 5, 2) := by decide +kernel
theorem dX12_load_87 : decode cX12_load 87 = .ok (.ifCond .ge 8, 3) := by decide +kernel
theorem dX12_load_90 : decode cX12_load 90 = .ok (.bipush (-9), 2) := by decide +kernel
theorem dX12_load_92 : decode cX12_load 92 = .ok (.goto 19, 3) := by decide +kernel
theorem dX12_load_95 : decode cX12_load 95 = .ok (.iload 5, 2) := by decide +kernel
theorem dX12_load_97 : decode cX12_load 97 = .ok (.sipush 9999, 3) := by decide +kernel
theorem dX12_load_100 : decode cX12_load 100 = .ok (.if_icmp .le 9, 3) := by decide +kernel
theorem dX12_load_103 : decode cX12_load 103 = .ok (.sipush 9999, 3) := by decide +kernel
theorem dX12_load_106 : decode cX12_load 106 = .ok (.goto 5, 3) := by decide +kernel
theorem dX12_load_109 : decode cX12_load 109 = .ok (.iload 5, 2) := by decide +kernel
theorem dX12_load_111 : decode cX12_load 111 = .ok (.ireturn, 1) := by decide +kernel
theorem dX12_late_0 : decode cX12_late 0 = .ok (.iload_n 1, 1) := by decide +kernel
theorem dX12_late_1 : decode cX12_late 1 = .ok (.i2l, 1) := by decide +kernel
theorem dX12_late_2 : decode cX12_late 2 = .ok (.lconst 0, 1) := by decide +kernel
theorem dX12_late_3 : decode cX12_late 3 = .ok (.ldc2_w 430, 3) := by decide +kernel
theorem dX12_late_6 : decode cX12_late 6 = .ok (.invokestatic 222, 3) := by decide +kernel
theorem dX12_late_9 : decode cX12_late 9 = .ok (.ifCond .ne 9, 3) := by decide +kernel
theorem dX12_late_12 : decode cX12_late 12 = .ok (.aload_n 0, 1) := by decide +kernel
theorem dX12_late_13 : decode cX12_late 13 = .ok (.iconst (-1), 1) := by decide +kernel
theorem dX12_late_14 : decode cX12_late 14 = .ok (.invokevirtual 226, 3) := by decide +kernel
theorem dX12_late_17 : decode cX12_late 17 = .ok (.ireturn, 1) := by decide +kernel
theorem dX12_late_18 : decode cX12_late 18 = .ok (.iload_n 2, 1) := by decide +kernel
theorem dX12_late_19 : decode cX12_late 19 = .ok (.i2l, 1) := by decide +kernel
theorem dX12_late_20 : decode cX12_late 20 = .ok (.lconst 0, 1) := by decide +kernel
theorem dX12_late_21 : decode cX12_late 21 = .ok (.ldc2_w 444, 3) := by decide +kernel
theorem dX12_late_24 : decode cX12_late 24 = .ok (.invokestatic 232, 3) := by decide +kernel
theorem dX12_late_27 : decode cX12_late 27 = .ok (.istore_n 3, 1) := by decide +kernel
theorem dX12_late_28 : decode cX12_late 28 = .ok (.iload_n 3, 1) := by decide +kernel
theorem dX12_late_29 : decode cX12_late 29 = .ok (.ifCond .eq 9, 3) := by decide +kernel
theorem dX12_late_32 : decode cX12_late 32 = .ok (.aload_n 0, 1) := by decide +kernel
theorem dX12_late_33 : decode cX12_late 33 = .ok (.iload_n 3, 1) := by decide +kernel
theorem dX12_late_34 : decode cX12_late 34 = .ok (.invokevirtual 226, 3) := by decide +kernel
theorem dX12_late_37 : decode cX12_late 37 = .ok (.ireturn, 1) := by decide +kernel
theorem dX12_late_38 : decode cX12_late 38 = .ok (.aload_n 0, 1) := by decide +kernel
theorem dX12_late_39 : decode cX12_late 39 = .ok (.getfield 180, 3) := by decide +kernel
theorem dX12_late_42 : decode cX12_late 42 = .ok (.iload_n 1, 1) := by decide +kernel
theorem dX12_late_43 : decode cX12_late 43 = .ok (.iaload, 1) := by decide +kernel
theorem dX12_late_44 : decode cX12_late 44 = .ok (.istore 4, 2) := by decide +kernel
theorem dX12_late_46 : decode cX12_late 46 = .ok (.aload_n 0, 1) := by decide +kernel
theorem dX12_late_47 : decode cX12_late 47 = .ok (.getfield 180, 3) := by decide +kernel
theorem dX12_late_50 : decode cX12_late 50 = .ok (.iload_n 1, 1) := by decide +kernel
theorem dX12_late_51 : decode cX12_late 51 = .ok (.iload_n 2, 1) := by decide +kernel
theorem dX12_late_52 : decode cX12_late 52 = .ok (.iastore, 1) := by decide +kernel
theorem dX12_late_53 : decode cX12_late 53 = .ok (.iload 4, 2) := by decide +kernel
theorem dX12_late_55 : decode cX12_late 55 = .ok (.ireturn, 1) := by decide +kernel
theorem dX12_spray_0 : decode cX12_spray 0 = .ok (.iload_n 1, 1) := by decide +kernel
theorem dX12_spray_1 : decode cX12_spray 1 = .ok (.i2l, 1) := by decide +kernel
theorem dX12_spray_2 : decode cX12_spray 2 = .ok (.lconst 0, 1) := by decide +kernel
theorem dX12_spray_3 : decode cX12_spray 3 = .ok (.ldc2_w 430, 3) := by decide +kernel
theorem dX12_spray_6 : decode cX12_spray 6 = .ok (.invokestatic 222, 3) := by decide +kernel
theorem dX12_spray_9 : decode cX12_spray 9 = .ok (.ifCond .ne 9, 3) := by decide +kernel
theorem dX12_spray_12 : decode cX12_spray 12 = .ok (.aload_n 0, 1) := by decide +kernel
theorem dX12_spray_13 : decode cX12_spray 13 = .ok (.iconst (-1), 1) := by decide +kernel
theorem dX12_spray_14 : decode cX12_spray 14 = .ok (.invokevirtual 226, 3) := by decide +kernel
theorem dX12_spray_17 : decode cX12_spray 17 = .ok (.ireturn, 1) := by decide +kernel
theorem dX12_spray_18 : decode cX12_spray 18 = .ok (.iload_n 2, 1) := by decide +kernel
theorem dX12_spray_19 : decode cX12_spray 19 = .ok (.i2l, 1) := by decide +kernel
theorem dX12_spray_20 : decode cX12_spray 20 = .ok (.lconst 0, 1) := by decide +kernel
theorem dX12_spray_21 : decode cX12_spray 21 = .ok (.ldc2_w 428, 3) := by decide +kernel
theorem dX12_spray_24 : decode cX12_spray 24 = .ok (.invokestatic 232, 3) := by decide +kernel
theorem dX12_spray_27 : decode cX12_spray 27 = .ok (.istore_n 3, 1) := by decide +kernel
theorem dX12_spray_28 : decode cX12_spray 28 = .ok (.iload_n 3, 1) := by decide +kernel
theorem dX12_spray_29 : decode cX12_spray 29 = .ok (.ifCond .ne 15, 3) := by decide +kernel
theorem dX12_spray_32 : decode cX12_spray 32 = .ok (.aload_n 0, 1) := by decide +kernel
theorem dX12_spray_33 : decode cX12_spray 33 = .ok (.getfield 446, 3) := by decide +kernel
theorem dX12_spray_36 : decode cX12_spray 36 = .ok (.bipush 20, 2) := by decide +kernel
theorem dX12_spray_38 : decode cX12_spray 38 = .ok (.if_icmp .ne 6, 3) := by decide +kernel
theorem dX12_spray_41 : decode cX12_spray 41 = .ok (.bipush (-6), 2) := by decide +kernel
theorem dX12_spray_43 : decode cX12_spray 43 = .ok (.istore_n 3, 1) := by decide +kernel
theorem dX12_spray_44 : decode cX12_spray 44 = .ok (.iload_n 3, 1) := by decide +kernel
theorem dX12_spray_45 : decode cX12_spray 45 = .ok (.ifCond .eq 9, 3) := by decide +kernel
theorem dX12_spray_48 : decode cX12_spray 48 = .ok (.aload_n 0, 1) := by decide +kernel
theorem dX12_spray_49 : decode cX12_spray 49 = .ok (.iload_n 3, 1) := by decide +kernel
theorem dX12_spray_50 : decode cX12_spray 50 = .ok (.invokevirtual 226, 3) := by decide +kernel
theorem dX12_spray_53 : decode cX12_spray 53 = .ok (.ireturn, 1) := by decide +kernel
theorem dX12_spray_54 : decode cX12_spray 54 = .ok (.aload_n 0, 1) := by decide +kernel
theorem dX12_spray_55 : decode cX12_spray 55 = .ok (.getfield 183, 3) := by decide +kernel
theorem dX12_spray_58 : decode cX12_spray 58 = .ok (.aload_n 0, 1) := by decide +kernel
theorem dX12_spray_59 : decode cX12_spray 59 = .ok (.getfield 446, 3) := by decide +kernel
theorem dX12_spray_62 : decode cX12_spray 62 = .ok (.iload_n 1, 1) := by decide +kernel
theorem dX12_spray_63 : decode cX12_spray 63 = .ok (.iastore, 1) := by decide +kernel
theorem dX12_spray_64 : decode cX12_spray 64 = .ok (.aload_n 0, 1) := by decide +kernel
theorem dX12_spray_65 : decode cX12_spray 65 = .ok (.getfield 186, 3) := by decide +kernel
theorem dX12_spray_68 : decode cX12_spray 68 = .ok (.aload_n 0, 1) := by decide +kernel
theorem dX12_spray_69 : decode cX12_spray 69 = .ok (.getfield 446, 3) := by decide +kernel
theorem dX12_spray_72 : decode cX12_spray 72 = .ok (.iload_n 2, 1) := by decide +kernel
theorem dX12_spray_73 : decode cX12_spray 73 = .ok (.iastore, 1) := by decide +kernel
theorem dX12_spray_74 : decode cX12_spray 74 = .ok (.aload_n 0, 1) := by decide +kernel
theorem dX12_spray_75 : decode cX12_spray 75 = .ok (.dup, 1) := by decide +kernel
theorem dX12_spray_76 : decode cX12_spray 76 = .ok (.getfield 446, 3) := by decide +kernel
theorem dX12_spray_79 : decode cX12_spray 79 = .ok (.iconst 1, 1) := by decide +kernel
theorem dX12_spray_80 : decode cX12_spray 80 = .ok (.iadd, 1) := by decide +kernel
theorem dX12_spray_81 : decode cX12_spray 81 = .ok (.putfield 446, 3) := by decide +kernel
theorem dX12_spray_84 : decode cX12_spray 84 = .ok (.aload_n 0, 1) := by decide +kernel
theorem dX12_spray_85 : decode cX12_spray 85 = .ok (.getfield 446, 3) := by decide +kernel
theorem dX12_spray_88 : decode cX12_spray 88 = .ok (.ireturn, 1) := by decide +kernel
theorem dX12_seen_0 : decode cX12_seen 0 = .ok (.iload_n 1, 1) := by decide +kernel
theorem dX12_seen_1 : decode cX12_seen 1 = .ok (.i2l, 1) := by decide +kernel
theorem dX12_seen_2 : decode cX12_seen 2 = .ok (.lconst 0, 1) := by decide +kernel
theorem dX12_seen_3 : decode cX12_seen 3 = .ok (.ldc2_w 428, 3) := by decide +kernel
theorem dX12_seen_6 : decode cX12_seen 6 = .ok (.invokestatic 232, 3) := by decide +kernel
theorem dX12_seen_9 : decode cX12_seen 9 = .ok (.istore_n 3, 1) := by decide +kernel
theorem dX12_seen_10 : decode cX12_seen 10 = .ok (.iload_n 3, 1) := by decide +kernel
theorem dX12_seen_11 : decode cX12_seen 11 = .ok (.ifCond .ne 15, 3) := by decide +kernel
theorem dX12_seen_14 : decode cX12_seen 14 = .ok (.aload_n 0, 1) := by decide +kernel
theorem dX12_seen_15 : decode cX12_seen 15 = .ok (.getfield 449, 3) := by decide +kernel
theorem dX12_seen_18 : decode cX12_seen 18 = .ok (.bipush 20, 2) := by decide +kernel
theorem dX12_seen_20 : decode cX12_seen 20 = .ok (.if_icmp .ne 6, 3) := by decide +kernel
theorem dX12_seen_23 : decode cX12_seen 23 = .ok (.bipush (-6), 2) := by decide +kernel
theorem dX12_seen_25 : decode cX12_seen 25 = .ok (.istore_n 3, 1) := by decide +kernel
theorem dX12_seen_26 : decode cX12_seen 26 = .ok (.iload_n 3, 1) := by decide +kernel
theorem dX12_seen_27 : decode cX12_seen 27 = .ok (.ifCond .eq 9, 3) := by decide +kernel
theorem dX12_seen_30 : decode cX12_seen 30 = .ok (.aload_n 0, 1) := by decide +kernel
theorem dX12_seen_31 : decode cX12_seen 31 = .ok (.iload_n 3, 1) := by decide +kernel
theorem dX12_seen_32 : decode cX12_seen 32 = .ok (.invokevirtual 226, 3) := by decide +kernel
theorem dX12_seen_35 : decode cX12_seen 35 = .ok (.ireturn, 1) := by decide +kernel
theorem dX12_seen_36 : decode cX12_seen 36 = .ok (.aload_n 0, 1) := by decide +kernel
theorem dX12_seen_37 : decode cX12_seen 37 = .ok (.getfield 189, 3) := by decide +kernel
theorem dX12_seen_40 : decode cX12_seen 40 = .ok (.aload_n 0, 1) := by decide +kernel
theorem dX12_seen_41 : decode cX12_seen 41 = .ok (.getfield 449, 3) := by decide +kernel
theorem dX12_seen_44 : decode cX12_seen 44 = .ok (.iload_n 1, 1) := by decide +kernel
theorem dX12_seen_45 : decode cX12_seen 45 = .ok (.iastore, 1) := by decide +kernel
theorem dX12_seen_46 : decode cX12_seen 46 = .ok (.aload_n 0, 1) := by decide +kernel
theorem dX12_seen_47 : decode cX12_seen 47 = .ok (.getfield 195, 3) := by decide +kernel
theorem dX12_seen_50 : decode cX12_seen 50 = .ok (.aload_n 0, 1) := by decide +kernel
theorem dX12_seen_51 : decode cX12_seen 51 = .ok (.getfield 449, 3) := by decide +kernel
theorem dX12_seen_54 : decode cX12_seen 54 = .ok (.iload_n 2, 1) := by decide +kernel
theorem dX12_seen_55 : decode cX12_seen 55 = .ok (.bastore, 1) := by decide +kernel
theorem dX12_seen_56 : decode cX12_seen 56 = .ok (.aload_n 0, 1) := by decide +kernel
theorem dX12_seen_57 : decode cX12_seen 57 = .ok (.dup, 1) := by decide +kernel
theorem dX12_seen_58 : decode cX12_seen 58 = .ok (.getfield 449, 3) := by decide +kernel
theorem dX12_seen_61 : decode cX12_seen 61 = .ok (.iconst 1, 1) := by decide +kernel
theorem dX12_seen_62 : decode cX12_seen 62 = .ok (.iadd, 1) := by decide +kernel
theorem dX12_seen_63 : decode cX12_seen 63 = .ok (.putfield 449, 3) := by decide +kernel
theorem dX12_seen_66 : decode cX12_seen 66 = .ok (.aload_n 0, 1) := by decide +kernel
theorem dX12_seen_67 : decode cX12_seen 67 = .ok (.getfield 449, 3) := by decide +kernel
theorem dX12_seen_70 : decode cX12_seen 70 = .ok (.ireturn, 1) := by decide +kernel
theorem dX12_anew_0 : decode cX12_anew 0 = .ok (.aload_n 0, 1) := by decide +kernel
theorem dX12_anew_1 : decode cX12_anew 1 = .ok (.getfield 446, 3) := by decide +kernel
theorem dX12_anew_4 : decode cX12_anew 4 = .ok (.aload_n 0, 1) := by decide +kernel
theorem dX12_anew_5 : decode cX12_anew 5 = .ok (.getfield 449, 3) := by decide +kernel
theorem dX12_anew_8 : decode cX12_anew 8 = .ok (.iadd, 1) := by decide +kernel
theorem dX12_anew_9 : decode cX12_anew 9 = .ok (.istore_n 1, 1) := by decide +kernel
theorem dX12_anew_10 : decode cX12_anew 10 = .ok (.aload_n 0, 1) := by decide +kernel
theorem dX12_anew_11 : decode cX12_anew 11 = .ok (.iconst 0, 1) := by decide +kernel
theorem dX12_anew_12 : decode cX12_anew 12 = .ok (.putfield 446, 3) := by decide +kernel
theorem dX12_anew_15 : decode cX12_anew 15 = .ok (.aload_n 0, 1) := by decide +kernel
theorem dX12_anew_16 : decode cX12_anew 16 = .ok (.iconst 0, 1) := by decide +kernel
theorem dX12_anew_17 : decode cX12_anew 17 = .ok (.putfield 449, 3) := by decide +kernel
theorem dX12_anew_20 : decode cX12_anew 20 = .ok (.iload_n 1, 1) := by decide +kernel
theorem dX12_anew_21 : decode cX12_anew 21 = .ok (.ireturn, 1) := by decide +kernel
theorem dX12_fits_0 : decode cX12_fits 0 = .ok (.iconst 0, 1) := by decide +kernel
theorem dX12_fits_1 : decode cX12_fits 1 = .ok (.istore_n 2, 1) := by decide +kernel
theorem dX12_fits_2 : decode cX12_fits 2 = .ok (.iload_n 2, 1) := by decide +kernel
theorem dX12_fits_3 : decode cX12_fits 3 = .ok (.aload_n 0, 1) := by decide +kernel
theorem dX12_fits_4 : decode cX12_fits 4 = .ok (.getfield 449, 3) := by decide +kernel
theorem dX12_fits_7 : decode cX12_fits 7 = .ok (.if_icmp .ge 95, 3) := by decide +kernel
theorem dX12_fits_10 : decode cX12_fits 10 = .ok (.iconst 0, 1) := by decide +kernel
theorem dX12_fits_11 : decode cX12_fits 11 = .ok (.istore_n 3, 1) := by decide +kernel
theorem dX12_fits_12 : decode cX12_fits 12 = .ok (.iconst 0, 1) := by decide +kernel
theorem dX12_fits_13 : decode cX12_fits 13 = .ok (.istore 4, 2) := by decide +kernel
theorem dX12_fits_15 : decode cX12_fits 15 = .ok (.iload 4, 2) := by decide +kernel
theorem dX12_fits_17 : decode cX12_fits 17 = .ok (.aload_n 0, 1) := by decide +kernel
theorem dX12_fits_18 : decode cX12_fits 18 = .ok (.getfield 446, 3) := by decide +kernel
theorem dX12_fits_21 : decode cX12_fits 21 = .ok (.if_icmp .ge 63, 3) := by decide +kernel
theorem dX12_fits_24 : decode cX12_fits 24 = .ok (.iload_n 3, 1) := by decide +kernel
theorem dX12_fits_25 : decode cX12_fits 25 = .ok (.ifCond .ne 47, 3) := by decide +kernel
theorem dX12_fits_28 : decode cX12_fits 28 = .ok (.iload_n 1, 1) := by decide +kernel
theorem dX12_fits_29 : decode cX12_fits 29 = .ok (.aload_n 0, 1) := by decide +kernel
theorem dX12_fits_30 : decode cX12_fits 30 = .ok (.getfield 183, 3) := by decide +kernel
theorem dX12_fits_33 : decode cX12_fits 33 = .ok (.iload 4, 2) := by decide +kernel
theorem dX12_fits_35 : decode cX12_fits 35 = .ok (.iaload, 1) := by decide +kernel
theorem dX12_fits_36 : decode cX12_fits 36 = .ok (.ishr, 1) := by decide +kernel
theorem dX12_fits_37 : decode cX12_fits 37 = .ok (.iconst 1, 1) := by decide +kernel
theorem dX12_fits_38 : decode cX12_fits 38 = .ok (.iand, 1) := by decide +kernel
theorem dX12_fits_39 : decode cX12_fits 39 = .ok (.iconst 1, 1) := by decide +kernel
theorem dX12_fits_40 : decode cX12_fits 40 = .ok (.if_icmp .ne 36, 3) := by decide +kernel
theorem dX12_fits_43 : decode cX12_fits 43 = .ok (.aload_n 0, 1) := by decide +kernel
theorem dX12_fits_44 : decode cX12_fits 44 = .ok (.getfield 186, 3) := by decide +kernel
theorem dX12_fits_47 : decode cX12_fits 47 = .ok (.iload 4, 2) := by decide +kernel
theorem dX12_fits_49 : decode cX12_fits 49 = .ok (.iaload, 1) := by decide +kernel
theorem dX12_fits_50 : decode cX12_fits 50 = .ok (.aload_n 0, 1) := by decide +kernel
theorem dX12_fits_51 : decode cX12_fits 51 = .ok (.getfield 180, 3) := by decide +kernel
theorem dX12_fits_54 : decode cX12_fits 54 = .ok (.aload_n 0, 1) := by decide +kernel
theorem dX12_fits_55 : decode cX12_fits 55 = .ok (.getfield 183, 3) := by decide +kernel
theorem dX12_fits_58 : decode cX12_fits 58 = .ok (.iload 4, 2) := by decide +kernel
theorem dX12_fits_60 : decode cX12_fits 60 = .ok (.iaload, 1) := by decide +kernel
theorem dX12_fits_61 : decode cX12_fits 61 = .ok (.iaload, 1) := by decide +kernel
theorem dX12_fits_62 : decode cX12_fits 62 = .ok (.iadd, 1) := by decide +kernel
theorem dX12_fits_63 : decode cX12_fits 63 = .ok (.aload_n 0, 1) := by decide +kernel
theorem dX12_fits_64 : decode cX12_fits 64 = .ok (.getfield 189, 3) := by decide +kernel
theorem dX12_fits_67 : decode cX12_fits 67 = .ok (.iload_n 2, 1) := by decide +kernel
theorem dX12_fits_68 : decode cX12_fits 68 = .ok (.iaload, 1) := by decide +kernel
theorem dX12_fits_69 : decode cX12_fits 69 = .ok (.if_icmp .ne 7, 3) := by decide +kernel
theorem dX12_fits_72 : decode cX12_fits 72 = .ok (.iconst 1, 1) := by decide +kernel
theorem dX12_fits_73 : decode cX12_fits 73 = .ok (.goto 4, 3) := by decide +kernel
theorem dX12_fits_76 : decode cX12_fits 76 = .ok (.iconst 0, 1) := by decide +kernel
theorem dX12_fits_77 : decode cX12_fits 77 = .ok (.istore_n 3, 1) := by decide +kernel
theorem dX12_fits_78 : decode cX12_fits 78 = .ok (.iinc 4 1, 3) := by decide +kernel
theorem dX12_fits_81 : decode cX12_fits 81 = .ok (.goto (-66), 3) := by decide +kernel
theorem dX12_fits_84 : decode cX12_fits 84 = .ok (.iload_n 3, 1) := by decide +kernel
theorem dX12_fits_85 : decode cX12_fits 85 = .ok (.aload_n 0, 1) := by decide +kernel
theorem dX12_fits_86 : decode cX12_fits 86 = .ok (.getfield 195, 3) := by decide +kernel
theorem dX12_fits_89 : decode cX12_fits 89 = .ok (.iload_n 2, 1) := by decide +kernel
theorem dX12_fits_90 : decode cX12_fits 90 = .ok (.baload, 1) := by decide +kernel
theorem dX12_fits_91 : decode cX12_fits 91 = .ok (.if_icmp .eq 5, 3) := by decide +kernel
theorem dX12_fits_94 : decode cX12_fits 94 = .ok (.iconst 0, 1) := by decide +kernel
theorem dX12_fits_95 : decode cX12_fits 95 = .ok (.ireturn, 1) := by decide +kernel
theorem dX12_fits_96 : decode cX12_fits 96 = .ok (.iinc 2 1, 3) := by decide +kernel
theorem dX12_fits_99 : decode cX12_fits 99 = .ok (.goto (-97), 3) := by decide +kernel
theorem dX12_fits_102 : decode cX12_fits 102 = .ok (.iconst 1, 1) := by decide +kernel
theorem dX12_fits_103 : decode cX12_fits 103 = .ok (.ireturn, 1) := by decide +kernel
theorem dX12_hunt_0 : decode cX12_hunt 0 = .ok (.iload_n 1, 1) := by decide +kernel
theorem dX12_hunt_1 : decode cX12_hunt 1 = .ok (.i2l, 1) := by decide +kernel
theorem dX12_hunt_2 : decode cX12_hunt 2 = .ok (.lconst 0, 1) := by decide +kernel
theorem dX12_hunt_3 : decode cX12_hunt 3 = .ok (.ldc2_w 220, 3) := by decide +kernel
theorem dX12_hunt_6 : decode cX12_hunt 6 = .ok (.invokestatic 222, 3) := by decide +kernel
theorem dX12_hunt_9 : decode cX12_hunt 9 = .ok (.ifCond .ne 10, 3) := by decide +kernel
theorem dX12_hunt_12 : decode cX12_hunt 12 = .ok (.aload_n 0, 1) := by decide +kernel
theorem dX12_hunt_13 : decode cX12_hunt 13 = .ok (.bipush (-2), 2) := by decide +kernel
theorem dX12_hunt_15 : decode cX12_hunt 15 = .ok (.invokevirtual 226, 3) := by decide +kernel
theorem dX12_hunt_18 : decode cX12_hunt 18 = .ok (.ireturn, 1) := by decide +kernel
theorem dX12_hunt_19 : decode cX12_hunt 19 = .ok (.iconst 0, 1) := by decide +kernel
theorem dX12_hunt_20 : decode cX12_hunt 20 = .ok (.istore_n 2, 1) := by decide +kernel
theorem dX12_hunt_21 : decode cX12_hunt 21 = .ok (.iconst 0, 1) := by decide +kernel
theorem dX12_hunt_22 : decode cX12_hunt 22 = .ok (.istore_n 3, 1) := by decide +kernel
theorem dX12_hunt_23 : decode cX12_hunt 23 = .ok (.iload_n 3, 1) := by decide +kernel
theorem dX12_hunt_24 : decode cX12_hunt 24 = .ok (.bipush 8, 2) := by decide +kernel
theorem dX12_hunt_26 : decode cX12_hunt 26 = .ok (.if_icmp .ge 16, 3) := by decide +kernel
theorem dX12_hunt_29 : decode cX12_hunt 29 = .ok (.aload_n 0, 1) := by decide +kernel
theorem dX12_hunt_30 : decode cX12_hunt 30 = .ok (.getfield 192, 3) := by decide +kernel
theorem dX12_hunt_33 : decode cX12_hunt 33 = .ok (.iload_n 3, 1) := by decide +kernel
theorem dX12_hunt_34 : decode cX12_hunt 34 = .ok (.iconst 0, 1) := by decide +kernel
theorem dX12_hunt_35 : decode cX12_hunt 35 = .ok (.iastore, 1) := by decide +kernel
theorem dX12_hunt_36 : decode cX12_hunt 36 = .ok (.iinc 3 1, 3) := by decide +kernel
theorem dX12_hunt_39 : decode cX12_hunt 39 = .ok (.goto (-16), 3) := by decide +kernel
theorem dX12_hunt_42 : decode cX12_hunt 42 = .ok (.iconst 0, 1) := by decide +kernel
theorem dX12_hunt_43 : decode cX12_hunt 43 = .ok (.istore_n 3, 1) := by decide +kernel
theorem dX12_hunt_44 : decode cX12_hunt 44 = .ok (.iload_n 3, 1) := by decide +kernel
theorem dX12_hunt_45 : decode cX12_hunt 45 = .ok (.sipush 256, 3) := by decide +kernel
theorem dX12_hunt_48 : decode cX12_hunt 48 = .ok (.if_icmp .ge 63, 3) := by decide +kernel
theorem dX12_hunt_51 : decode cX12_hunt 51 = .ok (.iload_n 3, 1) := by decide +kernel
theorem dX12_hunt_52 : decode cX12_hunt 52 = .ok (.invokestatic 391, 3) := by decide +kernel
theorem dX12_hunt_55 : decode cX12_hunt 55 = .ok (.iconst 2, 1) := by decide +kernel
theorem dX12_hunt_56 : decode cX12_hunt 56 = .ok (.if_icmp .gt 49, 3) := by decide +kernel
theorem dX12_hunt_59 : decode cX12_hunt 59 = .ok (.aload_n 0, 1) := by decide +kernel
theorem dX12_hunt_60 : decode cX12_hunt 60 = .ok (.iload_n 3, 1) := by decide +kernel
theorem dX12_hunt_61 : decode cX12_hunt 61 = .ok (.invokevirtual 452, 3) := by decide +kernel
theorem dX12_hunt_64 : decode cX12_hunt 64 = .ok (.ifCond .ne 6, 3) := by decide +kernel
theorem dX12_hunt_67 : decode cX12_hunt 67 = .ok (.goto 38, 3) := by decide +kernel
theorem dX12_hunt_70 : decode cX12_hunt 70 = .ok (.iinc 2 1, 3) := by decide +kernel
theorem dX12_hunt_73 : decode cX12_hunt 73 = .ok (.iconst 0, 1) := by decide +kernel
theorem dX12_hunt_74 : decode cX12_hunt 74 = .ok (.istore 4, 2) := by decide +kernel
theorem dX12_hunt_76 : decode cX12_hunt 76 = .ok (.iload 4, 2) := by decide +kernel
theorem dX12_hunt_78 : decode cX12_hunt 78 = .ok (.bipush 8, 2) := by decide +kernel
theorem dX12_hunt_80 : decode cX12_hunt 80 = .ok (.if_icmp .ge 25, 3) := by decide +kernel
theorem dX12_hunt_83 : decode cX12_hunt 83 = .ok (.aload_n 0, 1) := by decide +kernel
theorem dX12_hunt_84 : decode cX12_hunt 84 = .ok (.getfield 192, 3) := by decide +kernel
theorem dX12_hunt_87 : decode cX12_hunt 87 = .ok (.iload 4, 2) := by decide +kernel
theorem dX12_hunt_89 : decode cX12_hunt 89 = .ok (.dup2, 1) := by decide +kernel
theorem dX12_hunt_90 : decode cX12_hunt 90 = .ok (.iaload, 1) := by decide +kernel
theorem dX12_hunt_91 : decode cX12_hunt 91 = .ok (.iload_n 3, 1) := by decide +kernel
theorem dX12_hunt_92 : decode cX12_hunt 92 = .ok (.iload 4, 2) := by decide +kernel
theorem dX12_hunt_94 : decode cX12_hunt 94 = .ok (.ishr, 1) := by decide +kernel
theorem dX12_hunt_95 : decode cX12_hunt 95 = .ok (.iconst 1, 1) := by decide +kernel
theorem dX12_hunt_96 : decode cX12_hunt 96 = .ok (.iand, 1) := by decide +kernel
theorem dX12_hunt_97 : decode cX12_hunt 97 = .ok (.iadd, 1) := by decide +kernel
theorem dX12_hunt_98 : decode cX12_hunt 98 = .ok (.iastore, 1) := by decide +kernel
theorem dX12_hunt_99 : decode cX12_hunt 99 = .ok (.iinc 4 1, 3) := by decide +kernel
theorem dX12_hunt_102 : decode cX12_hunt 102 = .ok (.goto (-26), 3) := by decide +kernel
theorem dX12_hunt_105 : decode cX12_hunt 105 = .ok (.iinc 3 1, 3) := by decide +kernel
theorem dX12_hunt_108 : decode cX12_hunt 108 = .ok (.goto (-64), 3) := by decide +kernel
theorem dX12_hunt_111 : decode cX12_hunt 111 = .ok (.iconst 0, 1) := by decide +kernel
theorem dX12_hunt_112 : decode cX12_hunt 112 = .ok (.istore_n 3, 1) := by decide +kernel
theorem dX12_hunt_113 : decode cX12_hunt 113 = .ok (.iconst 0, 1) := by decide +kernel
theorem dX12_hunt_114 : decode cX12_hunt 114 = .ok (.istore 4, 2) := by decide +kernel
theorem dX12_hunt_116 : decode cX12_hunt 116 = .ok (.bipush (-9), 2) := by decide +kernel
theorem dX12_hunt_118 : decode cX12_hunt 118 = .ok (.istore 5, 2) := by decide +kernel
theorem dX12_hunt_120 : decode cX12_hunt 120 = .ok (.sipush 1000, 3) := by decide +kernel
theorem dX12_hunt_123 : decode cX12_hunt 123 = .ok (.istore 6, 2) := by decide +kernel
theorem dX12_hunt_125 : decode cX12_hunt 125 = .ok (.iconst 0, 1) := by decide +kernel
theorem dX12_hunt_126 : decode cX12_hunt 126 = .ok (.istore 7, 2) := by decide +kernel
theorem dX12_hunt_128 : decode cX12_hunt 128 = .ok (.iload 7, 2) := by decide +kernel
theorem dX12_hunt_130 : decode cX12_hunt 130 = .ok (.bipush 8, 2) := by decide +kernel
theorem dX12_hunt_132 : decode cX12_hunt 132 = .ok (.if_icmp .ge 137, 3) := by decide +kernel
theorem dX12_hunt_135 : decode cX12_hunt 135 = .ok (.iload_n 2, 1) := by decide +kernel
theorem dX12_hunt_136 : decode cX12_hunt 136 = .ok (.ifCond .le 133, 3) := by decide +kernel
theorem dX12_hunt_139 : decode cX12_hunt 139 = .ok (.iload_n 3, 1) := by decide +kernel
theorem dX12_hunt_140 : decode cX12_hunt 140 = .ok (.aload_n 0, 1) := by decide +kernel
theorem dX12_hunt_141 : decode cX12_hunt 141 = .ok (.getfield 192, 3) := by decide +kernel
theorem dX12_hunt_144 : decode cX12_hunt 144 = .ok (.iload 7, 2) := by decide +kernel
theorem dX12_hunt_146 : decode cX12_hunt 146 = .ok (.iaload, 1) := by decide +kernel
theorem dX12_hunt_147 : decode cX12_hunt 147 = .ok (.iload_n 2, 1) := by decide +kernel
theorem dX12_hunt_148 : decode cX12_hunt 148 = .ok (.if_icmp .ne 10, 3) := by decide +kernel
theorem dX12_hunt_151 : decode cX12_hunt 151 = .ok (.iconst 1, 1) := by decide +kernel
theorem dX12_hunt_152 : decode cX12_hunt 152 = .ok (.iload 7, 2) := by decide +kernel
theorem dX12_hunt_154 : decode cX12_hunt 154 = .ok (.ishl, 1) := by decide +kernel
theorem dX12_hunt_155 : decode cX12_hunt 155 = .ok (.goto 4, 3) := by decide +kernel
theorem dX12_hunt_158 : decode cX12_hunt 158 = .ok (.iconst 0, 1) := by decide +kernel
theorem dX12_hunt_159 : decode cX12_hunt 159 = .ok (.ior, 1) := by decide +kernel
theorem dX12_hunt_160 : decode cX12_hunt 160 = .ok (.istore_n 3, 1) := by decide +kernel
theorem dX12_hunt_161 : decode cX12_hunt 161 = .ok (.iload 4, 2) := by decide +kernel
theorem dX12_hunt_163 : decode cX12_hunt 163 = .ok (.aload_n 0, 1) := by decide +kernel
theorem dX12_hunt_164 : decode cX12_hunt 164 = .ok (.getfield 192, 3) := by decide +kernel
theorem dX12_hunt_167 : decode cX12_hunt 167 = .ok (.iload 7, 2) := by decide +kernel
theorem dX12_hunt_169 : decode cX12_hunt 169 = .ok (.iaload, 1) := by decide +kernel
theorem dX12_hunt_170 : decode cX12_hunt 170 = .ok (.ifCond .ne 10, 3) := by decide +kernel
theorem dX12_hunt_173 : decode cX12_hunt 173 = .ok (.iconst 1, 1) := by decide +kernel
theorem dX12_hunt_174 : decode cX12_hunt 174 = .ok (.iload 7, 2) := by decide +kernel
theorem dX12_hunt_176 : decode cX12_hunt 176 = .ok (.ishl, 1) := by decide +kernel
theorem dX12_hunt_177 : decode cX12_hunt 177 = .ok (.goto 4, 3) := by decide +kernel
theorem dX12_hunt_180 : decode cX12_hunt 180 = .ok (.iconst 0, 1) := by decide +kernel
theorem dX12_hunt_181 : decode cX12_hunt 181 = .ok (.ior, 1) := by decide +kernel
theorem dX12_hunt_182 : decode cX12_hunt 182 = .ok (.istore 4, 2) := by decide +kernel
theorem dX12_hunt_184 : decode cX12_hunt 184 = .ok (.aload_n 0, 1) := by decide +kernel
theorem dX12_hunt_185 : decode cX12_hunt 185 = .ok (.getfield 192, 3) := by decide +kernel
theorem dX12_hunt_188 : decode cX12_hunt 188 = .ok (.iload 7, 2) := by decide +kernel
theorem dX12_hunt_190 : decode cX12_hunt 190 = .ok (.iaload, 1) := by decide +kernel
theorem dX12_hunt_191 : decode cX12_hunt 191 = .ok (.iload_n 2, 1) := by decide +kernel
theorem dX12_hunt_192 : decode cX12_hunt 192 = .ok (.aload_n 0, 1) := by decide +kernel
theorem dX12_hunt_193 : decode cX12_hunt 193 = .ok (.getfield 192, 3) := by decide +kernel
theorem dX12_hunt_196 : decode cX12_hunt 196 = .ok (.iload 7, 2) := by decide +kernel
theorem dX12_hunt_198 : decode cX12_hunt 198 = .ok (.iaload, 1) := by decide +kernel
theorem dX12_hunt_199 : decode cX12_hunt 199 = .ok (.isub, 1) := by decide +kernel
theorem dX12_hunt_200 : decode cX12_hunt 200 = .ok (.if_icmp .le 13, 3) := by decide +kernel
theorem dX12_hunt_203 : decode cX12_hunt 203 = .ok (.aload_n 0, 1) := by decide +kernel
theorem dX12_hunt_204 : decode cX12_hunt 204 = .ok (.getfield 192, 3) := by decide +kernel
theorem dX12_hunt_207 : decode cX12_hunt 207 = .ok (.iload 7, 2) := by decide +kernel
theorem dX12_hunt_209 : decode cX12_hunt 209 = .ok (.iaload, 1) := by decide +kernel
theorem dX12_hunt_210 : decode cX12_hunt 210 = .ok (.goto 12, 3) := by decide +kernel
theorem dX12_hunt_213 : decode cX12_hunt 213 = .ok (.iload_n 2, 1) := by decide +kernel
theorem dX12_hunt_214 : decode cX12_hunt 214 = .ok (.aload_n 0, 1) := by decide +kernel
theorem dX12_hunt_215 : decode cX12_hunt 215 = .ok (.getfield 192, 3) := by decide +kernel
theorem dX12_hunt_218 : decode cX12_hunt 218 = .ok (.iload 7, 2) := by decide +kernel
theorem dX12_hunt_220 : decode cX12_hunt 220 = .ok (.iaload, 1) := by decide +kernel
theorem dX12_hunt_221 : decode cX12_hunt 221 = .ok (.isub, 1) := by decide +kernel
theorem dX12_hunt_222 : decode cX12_hunt 222 = .ok (.istore 8, 2) := by decide +kernel
theorem dX12_hunt_224 : decode cX12_hunt 224 = .ok (.aload_n 0, 1) := by decide +kernel
theorem dX12_hunt_225 : decode cX12_hunt 225 = .ok (.getfield 192, 3) := by decide +kernel
theorem dX12_hunt_228 : decode cX12_hunt 228 = .ok (.iload 7, 2) := by decide +kernel
theorem dX12_hunt_230 : decode cX12_hunt 230 = .ok (.iaload, 1) := by decide +kernel
theorem dX12_hunt_231 : decode cX12_hunt 231 = .ok (.ifCond .eq 32, 3) := by decide +kernel
theorem dX12_hunt_234 : decode cX12_hunt 234 = .ok (.aload_n 0, 1) := by decide +kernel
theorem dX12_hunt_235 : decode cX12_hunt 235 = .ok (.getfield 192, 3) := by decide +kernel
theorem dX12_hunt_238 : decode cX12_hunt 238 = .ok (.iload 7, 2) := by decide +kernel
theorem dX12_hunt_240 : decode cX12_hunt 240 = .ok (.iaload, 1) := by decide +kernel
theorem dX12_hunt_241 : decode cX12_hunt 241 = .ok (.iload_n 2, 1) := by decide +kernel
theorem dX12_hunt_242 : decode cX12_hunt 242 = .ok (.if_icmp .eq 21, 3) := by decide +kernel
theorem dX12_hunt_245 : decode cX12_hunt 245 = .ok (.iload 8, 2) := by decide +kernel
theorem dX12_hunt_247 : decode cX12_hunt 247 = .ok (.iload 6, 2) := by decide +kernel
theorem dX12_hunt_249 : decode cX12_hunt 249 = .ok (.if_icmp .lt 6, 3) := by decide +kernel
theorem dX12_hunt_252 : decode cX12_hunt 252 = .ok (.goto 11, 3) := by decide +kernel
theorem dX12_hunt_255 : decode cX12_hunt 255 = .ok (.iload 7, 2) := by decide +kernel
theorem dX12_hunt_257 : decode cX12_hunt 257 = .ok (.istore 5, 2) := by decide +kernel
theorem dX12_hunt_259 : decode cX12_hunt 259 = .ok (.iload 8, 2) := by decide +kernel
theorem dX12_hunt_261 : decode cX12_hunt 261 = .ok (.istore 6, 2) := by decide +kernel
theorem dX12_hunt_263 : decode cX12_hunt 263 = .ok (.iinc 7 1, 3) := by decide +kernel
theorem dX12_hunt_266 : decode cX12_hunt 266 = .ok (.goto (-138), 3) := by decide +kernel
theorem dX12_hunt_269 : decode cX12_hunt 269 = .ok (.iload_n 1, 1) := by decide +kernel
theorem dX12_hunt_270 : decode cX12_hunt 270 = .ok (.ifCond .ne 7, 3) := by decide +kernel
theorem dX12_hunt_273 : decode cX12_hunt 273 = .ok (.iload_n 2, 1) := by decide +kernel
theorem dX12_hunt_274 : decode cX12_hunt 274 = .ok (.goto 24, 3) := by decide +kernel
theorem dX12_hunt_277 : decode cX12_hunt 277 = .ok (.iload_n 1, 1) := by decide +kernel
theorem dX12_hunt_278 : decode cX12_hunt 278 = .ok (.iconst 1, 1) := by decide +kernel
theorem dX12_hunt_279 : decode cX12_hunt 279 = .ok (.if_icmp .ne 7, 3) := by decide +kernel
theorem dX12_hunt_282 : decode cX12_hunt 282 = .ok (.iload_n 3, 1) := by decide +kernel
theorem dX12_hunt_283 : decode cX12_hunt 283 = .ok (.goto 15, 3) := by decide +kernel
theorem dX12_hunt_286 : decode cX12_hunt 286 = .ok (.iload_n 1, 1) := by decide +kernel
theorem dX12_hunt_287 : decode cX12_hunt 287 = .ok (.iconst 2, 1) := by decide +kernel
theorem dX12_hunt_288 : decode cX12_hunt 288 = .ok (.if_icmp .ne 8, 3) := by decide +kernel
theorem dX12_hunt_291 : decode cX12_hunt 291 = .ok (.iload 4, 2) := by decide +kernel
theorem dX12_hunt_293 : decode cX12_hunt 293 = .ok (.goto 5, 3) := by decide +kernel
theorem dX12_hunt_296 : decode cX12_hunt 296 = .ok (.iload 5, 2) := by decide +kernel
theorem dX12_hunt_298 : decode cX12_hunt 298 = .ok (.ireturn, 1) := by decide +kernel
theorem dX12_ways_0 : decode cX12_ways 0 = .ok (.iload_n 1, 1) := by decide +kernel
theorem dX12_ways_1 : decode cX12_ways 1 = .ok (.ifCond .lt 8, 3) := by decide +kernel
theorem dX12_ways_4 : decode cX12_ways 4 = .ok (.iload_n 1, 1) := by decide +kernel
theorem dX12_ways_5 : decode cX12_ways 5 = .ok (.iload_n 0, 1) := by decide +kernel
theorem dX12_ways_6 : decode cX12_ways 6 = .ok (.if_icmp .le 5, 3) := by decide +kernel
theorem dX12_ways_9 : decode cX12_ways 9 = .ok (.lconst 0, 1) := by decide +kernel
theorem dX12_ways_10 : decode cX12_ways 10 = .ok (.lreturn, 1) := by decide +kernel
theorem dX12_ways_11 : decode cX12_ways 11 = .ok (.lconst 1, 1) := by decide +kernel
theorem dX12_ways_12 : decode cX12_ways 12 = .ok (.lstore_n 2, 1) := by decide +kernel
theorem dX12_ways_13 : decode cX12_ways 13 = .ok (.iconst 0, 1) := by decide +kernel
theorem dX12_ways_14 : decode cX12_ways 14 = .ok (.istore 4, 2) := by decide +kernel
theorem dX12_ways_16 : decode cX12_ways 16 = .ok (.iload 4, 2) := by decide +kernel
theorem dX12_ways_18 : decode cX12_ways 18 = .ok (.iload_n 1, 1) := by decide +kernel
theorem dX12_ways_19 : decode cX12_ways 19 = .ok (.if_icmp .ge 23, 3) := by decide +kernel
theorem dX12_ways_22 : decode cX12_ways 22 = .ok (.lload_n 2, 1) := by decide +kernel
theorem dX12_ways_23 : decode cX12_ways 23 = .ok (.iload_n 0, 1) := by decide +kernel
theorem dX12_ways_24 : decode cX12_ways 24 = .ok (.iload 4, 2) := by decide +kernel
theorem dX12_ways_26 : decode cX12_ways 26 = .ok (.isub, 1) := by decide +kernel
theorem dX12_ways_27 : decode cX12_ways 27 = .ok (.i2l, 1) := by decide +kernel
theorem dX12_ways_28 : decode cX12_ways 28 = .ok (.lmul, 1) := by decide +kernel
theorem dX12_ways_29 : decode cX12_ways 29 = .ok (.iload 4, 2) := by decide +kernel
theorem dX12_ways_31 : decode cX12_ways 31 = .ok (.iconst 1, 1) := by decide +kernel
theorem dX12_ways_32 : decode cX12_ways 32 = .ok (.iadd, 1) := by decide +kernel
theorem dX12_ways_33 : decode cX12_ways 33 = .ok (.i2l, 1) := by decide +kernel
theorem dX12_ways_34 : decode cX12_ways 34 = .ok (.ldiv, 1) := by decide +kernel
theorem dX12_ways_35 : decode cX12_ways 35 = .ok (.lstore_n 2, 1) := by decide +kernel
theorem dX12_ways_36 : decode cX12_ways 36 = .ok (.iinc 4 1, 3) := by decide +kernel
theorem dX12_ways_39 : decode cX12_ways 39 = .ok (.goto (-23), 3) := by decide +kernel
theorem dX12_ways_42 : decode cX12_ways 42 = .ok (.lload_n 2, 1) := by decide +kernel
theorem dX12_ways_43 : decode cX12_ways 43 = .ok (.lreturn, 1) := by decide +kernel
theorem dX12_odds_0 : decode cX12_odds 0 = .ok (.iload 5, 2) := by decide +kernel
theorem dX12_odds_2 : decode cX12_odds 2 = .ok (.i2l, 1) := by decide +kernel
theorem dX12_odds_3 : decode cX12_odds 3 = .ok (.lconst 0, 1) := by decide +kernel
theorem dX12_odds_4 : decode cX12_odds 4 = .ok (.lconst 1, 1) := by decide +kernel
theorem dX12_odds_5 : decode cX12_odds 5 = .ok (.invokestatic 222, 3) := by decide +kernel
theorem dX12_odds_8 : decode cX12_odds 8 = .ok (.ifCond .ne 11, 3) := by decide +kernel
theorem dX12_odds_11 : decode cX12_odds 11 = .ok (.aload_n 0, 1) := by decide +kernel
theorem dX12_odds_12 : decode cX12_odds 12 = .ok (.bipush (-2), 2) := by decide +kernel
theorem dX12_odds_14 : decode cX12_odds 14 = .ok (.invokevirtual 226, 3) := by decide +kernel
theorem dX12_odds_17 : decode cX12_odds 17 = .ok (.i2l, 1) := by decide +kernel
theorem dX12_odds_18 : decode cX12_odds 18 = .ok (.lreturn, 1) := by decide +kernel
theorem dX12_odds_19 : decode cX12_odds 19 = .ok (.iload_n 1, 1) := by decide +kernel
theorem dX12_odds_20 : decode cX12_odds 20 = .ok (.iconst 1, 1) := by decide +kernel
theorem dX12_odds_21 : decode cX12_odds 21 = .ok (.if_icmp .lt 16, 3) := by decide +kernel
theorem dX12_odds_24 : decode cX12_odds 24 = .ok (.iload_n 2, 1) := by decide +kernel
theorem dX12_odds_25 : decode cX12_odds 25 = .ok (.ifCond .lt 12, 3) := by decide +kernel
theorem dX12_odds_28 : decode cX12_odds 28 = .ok (.iload_n 3, 1) := by decide +kernel
theorem dX12_odds_29 : decode cX12_odds 29 = .ok (.ifCond .lt 8, 3) := by decide +kernel
theorem dX12_odds_32 : decode cX12_odds 32 = .ok (.iload 4, 2) := by decide +kernel
theorem dX12_odds_34 : decode cX12_odds 34 = .ok (.ifCond .ge 8, 3) := by decide +kernel
theorem dX12_odds_37 : decode cX12_odds 37 = .ok (.bipush (-4), 2) := by decide +kernel
theorem dX12_odds_39 : decode cX12_odds 39 = .ok (.goto 37, 3) := by decide +kernel
theorem dX12_odds_42 : decode cX12_odds 42 = .ok (.iload_n 1, 1) := by decide +kernel
theorem dX12_odds_43 : decode cX12_odds 43 = .ok (.bipush 30, 2) := by decide +kernel
theorem dX12_odds_45 : decode cX12_odds 45 = .ok (.if_icmp .gt 25, 3) := by decide +kernel
theorem dX12_odds_48 : decode cX12_odds 48 = .ok (.iload_n 2, 1) := by decide +kernel
theorem dX12_odds_49 : decode cX12_odds 49 = .ok (.iload_n 1, 1) := by decide +kernel
theorem dX12_odds_50 : decode cX12_odds 50 = .ok (.if_icmp .gt 20, 3) := by decide +kernel
theorem dX12_odds_53 : decode cX12_odds 53 = .ok (.iload_n 3, 1) := by decide +kernel
theorem dX12_odds_54 : decode cX12_odds 54 = .ok (.bipush 20, 2) := by decide +kernel
theorem dX12_odds_56 : decode cX12_odds 56 = .ok (.if_icmp .gt 14, 3) := by decide +kernel
theorem dX12_odds_59 : decode cX12_odds 59 = .ok (.iload_n 3, 1) := by decide +kernel
theorem dX12_odds_60 : decode cX12_odds 60 = .ok (.iload_n 1, 1) := by decide +kernel
theorem dX12_odds_61 : decode cX12_odds 61 = .ok (.if_icmp .gt 9, 3) := by decide +kernel
theorem dX12_odds_64 : decode cX12_odds 64 = .ok (.iload 4, 2) := by decide +kernel
theorem dX12_odds_66 : decode cX12_odds 66 = .ok (.iload_n 3, 1) := by decide +kernel
theorem dX12_odds_67 : decode cX12_odds 67 = .ok (.if_icmp .le 8, 3) := by decide +kernel
theorem dX12_odds_70 : decode cX12_odds 70 = .ok (.bipush (-6), 2) := by decide +kernel
theorem dX12_odds_72 : decode cX12_odds 72 = .ok (.goto 4, 3) := by decide +kernel
theorem dX12_odds_75 : decode cX12_odds 75 = .ok (.iconst 0, 1) := by decide +kernel
theorem dX12_odds_76 : decode cX12_odds 76 = .ok (.istore 6, 2) := by decide +kernel
theorem dX12_odds_78 : decode cX12_odds 78 = .ok (.iload 6, 2) := by decide +kernel
theorem dX12_odds_80 : decode cX12_odds 80 = .ok (.ifCond .eq 11, 3) := by decide +kernel
theorem dX12_odds_83 : decode cX12_odds 83 = .ok (.aload_n 0, 1) := by decide +kernel
theorem dX12_odds_84 : decode cX12_odds 84 = .ok (.iload 6, 2) := by decide +kernel
theorem dX12_odds_86 : decode cX12_odds 86 = .ok (.invokevirtual 226, 3) := by decide +kernel
theorem dX12_odds_89 : decode cX12_odds 89 = .ok (.i2l, 1) := by decide +kernel
theorem dX12_odds_90 : decode cX12_odds 90 = .ok (.lreturn, 1) := by decide +kernel
theorem dX12_odds_91 : decode cX12_odds 91 = .ok (.iload 5, 2) := by decide +kernel
theorem dX12_odds_93 : decode cX12_odds 93 = .ok (.iconst 1, 1) := by decide +kernel
theorem dX12_odds_94 : decode cX12_odds 94 = .ok (.if_icmp .ne 9, 3) := by decide +kernel
theorem dX12_odds_97 : decode cX12_odds 97 = .ok (.iload_n 1, 1) := by decide +kernel
theorem dX12_odds_98 : decode cX12_odds 98 = .ok (.iload_n 3, 1) := by decide +kernel
theorem dX12_odds_99 : decode cX12_odds 99 = .ok (.invokestatic 455, 3) := by decide +kernel
theorem dX12_odds_102 : decode cX12_odds 102 = .ok (.lreturn, 1) := by decide +kernel
theorem dX12_odds_103 : decode cX12_odds 103 = .ok (.lconst 0, 1) := by decide +kernel
theorem dX12_odds_104 : decode cX12_odds 104 = .ok (.lstore 7, 2) := by decide +kernel
theorem dX12_odds_106 : decode cX12_odds 106 = .ok (.iconst 0, 1) := by decide +kernel
theorem dX12_odds_107 : decode cX12_odds 107 = .ok (.istore 9, 2) := by decide +kernel
theorem dX12_odds_109 : decode cX12_odds 109 = .ok (.iload 9, 2) := by decide +kernel
theorem dX12_odds_111 : decode cX12_odds 111 = .ok (.iload 4, 2) := by decide +kernel
theorem dX12_odds_113 : decode cX12_odds 113 = .ok (.if_icmp .gt 31, 3) := by decide +kernel
theorem dX12_odds_116 : decode cX12_odds 116 = .ok (.lload 7, 2) := by decide +kernel
theorem dX12_odds_118 : decode cX12_odds 118 = .ok (.iload_n 2, 1) := by decide +kernel
theorem dX12_odds_119 : decode cX12_odds 119 = .ok (.iload 9, 2) := by decide +kernel
theorem dX12_odds_121 : decode cX12_odds 121 = .ok (.invokestatic 455, 3) := by decide +kernel
theorem dX12_odds_124 : decode cX12_odds 124 = .ok (.iload_n 1, 1) := by decide +kernel
theorem dX12_odds_125 : decode cX12_odds 125 = .ok (.iload_n 2, 1) := by decide +kernel
theorem dX12_odds_126 : decode cX12_odds 126 = .ok (.isub, 1) := by decide +kernel
theorem dX12_odds_127 : decode cX12_odds 127 = .ok (.iload_n 3, 1) := by decide +kernel
theorem dX12_odds_128 : decode cX12_odds 128 = .ok (.iload 9, 2) := by decide +kernel
theorem dX12_odds_130 : decode cX12_odds 130 = .ok (.isub, 1) := by decide +kernel
theorem dX12_odds_131 : decode cX12_odds 131 = .ok (.invokestatic 455, 3) := by decide +kernel
theorem dX12_odds_134 : decode cX12_odds 134 = .ok (.lmul, 1) := by decide +kernel
theorem dX12_odds_135 : decode cX12_odds 135 = .ok (.ladd, 1) := by decide +kernel
theorem dX12_odds_136 : decode cX12_odds 136 = .ok (.lstore 7, 2) := by decide +kernel
theorem dX12_odds_138 : decode cX12_odds 138 = .ok (.iinc 9 1, 3) := by decide +kernel
theorem dX12_odds_141 : decode cX12_odds 141 = .ok (.goto (-32), 3) := by decide +kernel
theorem dX12_odds_144 : decode cX12_odds 144 = .ok (.lload 7, 2) := by decide +kernel
theorem dX12_odds_146 : decode cX12_odds 146 = .ok (.lreturn, 1) := by decide +kernel
theorem dX12_offer_0 : decode cX12_offer 0 = .ok (.aload_n 0, 1) := by decide +kernel
theorem dX12_offer_1 : decode cX12_offer 1 = .ok (.iload_n 1, 1) := by decide +kernel
theorem dX12_offer_2 : decode cX12_offer 2 = .ok (.invokevirtual 238, 3) := by decide +kernel
theorem dX12_offer_5 : decode cX12_offer 5 = .ok (.ifCond .ne 9, 3) := by decide +kernel
theorem dX12_offer_8 : decode cX12_offer 8 = .ok (.aload_n 0, 1) := by decide +kernel
theorem dX12_offer_9 : decode cX12_offer 9 = .ok (.iconst (-1), 1) := by decide +kernel
theorem dX12_offer_10 : decode cX12_offer 10 = .ok (.invokevirtual 226, 3) := by decide +kernel
theorem dX12_offer_13 : decode cX12_offer 13 = .ok (.ireturn, 1) := by decide +kernel
theorem dX12_offer_14 : decode cX12_offer 14 = .ok (.iload_n 2, 1) := by decide +kernel
theorem dX12_offer_15 : decode cX12_offer 15 = .ok (.iconst 1, 1) := by decide +kernel
theorem dX12_offer_16 : decode cX12_offer 16 = .ok (.if_icmp .lt 8, 3) := by decide +kernel
theorem dX12_offer_19 : decode cX12_offer 19 = .ok (.iload_n 3, 1) := by decide +kernel
theorem dX12_offer_20 : decode cX12_offer 20 = .ok (.iconst 1, 1) := by decide +kernel
theorem dX12_offer_21 : decode cX12_offer 21 = .ok (.if_icmp .ge 8, 3) := by decide +kernel
theorem dX12_offer_24 : decode cX12_offer 24 = .ok (.bipush (-4), 2) := by decide +kernel
theorem dX12_offer_26 : decode cX12_offer 26 = .ok (.goto 31, 3) := by decide +kernel
theorem dX12_offer_29 : decode cX12_offer 29 = .ok (.iload_n 2, 1) := by decide +kernel
theorem dX12_offer_30 : decode cX12_offer 30 = .ok (.bipush 9, 2) := by decide +kernel
theorem dX12_offer_32 : decode cX12_offer 32 = .ok (.if_icmp .gt 19, 3) := by decide +kernel
theorem dX12_offer_35 : decode cX12_offer 35 = .ok (.iload_n 3, 1) := by decide +kernel
theorem dX12_offer_36 : decode cX12_offer 36 = .ok (.sipush 999, 3) := by decide +kernel
theorem dX12_offer_39 : decode cX12_offer 39 = .ok (.if_icmp .gt 12, 3) := by decide +kernel
theorem dX12_offer_42 : decode cX12_offer 42 = .ok (.aload_n 0, 1) := by decide +kernel
theorem dX12_offer_43 : decode cX12_offer 43 = .ok (.getfield 459, 3) := by decide +kernel
theorem dX12_offer_46 : decode cX12_offer 46 = .ok (.bipush 6, 2) := by decide +kernel
theorem dX12_offer_48 : decode cX12_offer 48 = .ok (.if_icmp .ne 8, 3) := by decide +kernel
theorem dX12_offer_51 : decode cX12_offer 51 = .ok (.bipush (-6), 2) := by decide +kernel
theorem dX12_offer_53 : decode cX12_offer 53 = .ok (.goto 4, 3) := by decide +kernel
theorem dX12_offer_56 : decode cX12_offer 56 = .ok (.iconst 0, 1) := by decide +kernel
theorem dX12_offer_57 : decode cX12_offer 57 = .ok (.istore 4, 2) := by decide +kernel
theorem dX12_offer_59 : decode cX12_offer 59 = .ok (.iload 4, 2) := by decide +kernel
theorem dX12_offer_61 : decode cX12_offer 61 = .ok (.ifCond .eq 10, 3) := by decide +kernel
theorem dX12_offer_64 : decode cX12_offer 64 = .ok (.aload_n 0, 1) := by decide +kernel
theorem dX12_offer_65 : decode cX12_offer 65 = .ok (.iload 4, 2) := by decide +kernel
theorem dX12_offer_67 : decode cX12_offer 67 = .ok (.invokevirtual 226, 3) := by decide +kernel
theorem dX12_offer_70 : decode cX12_offer 70 = .ok (.ireturn, 1) := by decide +kernel
theorem dX12_offer_71 : decode cX12_offer 71 = .ok (.aload_n 0, 1) := by decide +kernel
theorem dX12_offer_72 : decode cX12_offer 72 = .ok (.getfield 198, 3) := by decide +kernel
theorem dX12_offer_75 : decode cX12_offer 75 = .ok (.aload_n 0, 1) := by decide +kernel
theorem dX12_offer_76 : decode cX12_offer 76 = .ok (.getfield 459, 3) := by decide +kernel
theorem dX12_offer_79 : decode cX12_offer 79 = .ok (.iload_n 1, 1) := by decide +kernel
theorem dX12_offer_80 : decode cX12_offer 80 = .ok (.iastore, 1) := by decide +kernel
theorem dX12_offer_81 : decode cX12_offer 81 = .ok (.aload_n 0, 1) := by decide +kernel
theorem dX12_offer_82 : decode cX12_offer 82 = .ok (.getfield 201, 3) := by decide +kernel
theorem dX12_offer_85 : decode cX12_offer 85 = .ok (.aload_n 0, 1) := by decide +kernel
theorem dX12_offer_86 : decode cX12_offer 86 = .ok (.getfield 459, 3) := by decide +kernel
theorem dX12_offer_89 : decode cX12_offer 89 = .ok (.iload_n 2, 1) := by decide +kernel
theorem dX12_offer_90 : decode cX12_offer 90 = .ok (.iastore, 1) := by decide +kernel
theorem dX12_offer_91 : decode cX12_offer 91 = .ok (.aload_n 0, 1) := by decide +kernel
theorem dX12_offer_92 : decode cX12_offer 92 = .ok (.getfield 204, 3) := by decide +kernel
theorem dX12_offer_95 : decode cX12_offer 95 = .ok (.aload_n 0, 1) := by decide +kernel
theorem dX12_offer_96 : decode cX12_offer 96 = .ok (.getfield 459, 3) := by decide +kernel
theorem dX12_offer_99 : decode cX12_offer 99 = .ok (.iload_n 3, 1) := by decide +kernel
theorem dX12_offer_100 : decode cX12_offer 100 = .ok (.iastore, 1) := by decide +kernel
theorem dX12_offer_101 : decode cX12_offer 101 = .ok (.aload_n 0, 1) := by decide +kernel
theorem dX12_offer_102 : decode cX12_offer 102 = .ok (.dup, 1) := by decide +kernel
theorem dX12_offer_103 : decode cX12_offer 103 = .ok (.getfield 459, 3) := by decide +kernel
theorem dX12_offer_106 : decode cX12_offer 106 = .ok (.iconst 1, 1) := by decide +kernel
theorem dX12_offer_107 : decode cX12_offer 107 = .ok (.iadd, 1) := by decide +kernel
theorem dX12_offer_108 : decode cX12_offer 108 = .ok (.putfield 459, 3) := by decide +kernel
theorem dX12_offer_111 : decode cX12_offer 111 = .ok (.aload_n 0, 1) := by decide +kernel
theorem dX12_offer_112 : decode cX12_offer 112 = .ok (.getfield 459, 3) := by decide +kernel
theorem dX12_offer_115 : decode cX12_offer 115 = .ok (.ireturn, 1) := by decide +kernel
theorem dX12_isLeakedInto_0 : decode cX12_isLeakedInto 0 = .ok (.iconst 0, 1) := by decide +kernel
theorem dX12_isLeakedInto_1 : decode cX12_isLeakedInto 1 = .ok (.istore_n 2, 1) := by decide +kernel
theorem dX12_isLeakedInto_2 : decode cX12_isLeakedInto 2 = .ok (.iconst 0, 1) := by decide +kernel
theorem dX12_isLeakedInto_3 : decode cX12_isLeakedInto 3 = .ok (.istore_n 3, 1) := by decide +kernel
theorem dX12_isLeakedInto_4 : decode cX12_isLeakedInto 4 = .ok (.iload_n 3, 1) := by decide +kernel
theorem dX12_isLeakedInto_5 : decode cX12_isLeakedInto 5 = .ok (.aload_n 0, 1) := by decide +kernel
theorem dX12_isLeakedInto_6 : decode cX12_isLeakedInto 6 = .ok (.getfield 210, 3) := by decide +kernel
theorem dX12_isLeakedInto_9 : decode cX12_isLeakedInto 9 = .ok (.if_icmp .ge 45, 3) := by decide +kernel
theorem dX12_isLeakedInto_12 : decode cX12_isLeakedInto 12 = .ok (.iload_n 2, 1) := by decide +kernel
theorem dX12_isLeakedInto_13 : decode cX12_isLeakedInto 13 = .ok (.ifCond .ne 29, 3) := by decide +kernel
theorem dX12_isLeakedInto_16 : decode cX12_isLeakedInto 16 = .ok (.aload_n 0, 1) := by decide +kernel
theorem dX12_isLeakedInto_17 : decode cX12_isLeakedInto 17 = .ok (.getfield 138, 3) := by decide +kernel
theorem dX12_isLeakedInto_20 : decode cX12_isLeakedInto 20 = .ok (.iload_n 3, 1) := by decide +kernel
theorem dX12_isLeakedInto_21 : decode cX12_isLeakedInto 21 = .ok (.iaload, 1) := by decide +kernel
theorem dX12_isLeakedInto_22 : decode cX12_isLeakedInto 22 = .ok (.aload_n 0, 1) := by decide +kernel
theorem dX12_isLeakedInto_23 : decode cX12_isLeakedInto 23 = .ok (.getfield 138, 3) := by decide +kernel
theorem dX12_isLeakedInto_26 : decode cX12_isLeakedInto 26 = .ok (.iload_n 1, 1) := by decide +kernel
theorem dX12_isLeakedInto_27 : decode cX12_isLeakedInto 27 = .ok (.iaload, 1) := by decide +kernel
theorem dX12_isLeakedInto_28 : decode cX12_isLeakedInto 28 = .ok (.if_icmp .ne 18, 3) := by decide +kernel
theorem dX12_isLeakedInto_31 : decode cX12_isLeakedInto 31 = .ok (.aload_n 0, 1) := by decide +kernel
theorem dX12_isLeakedInto_32 : decode cX12_isLeakedInto 32 = .ok (.getfield 43, 3) := by decide +kernel
theorem dX12_isLeakedInto_35 : decode cX12_isLeakedInto 35 = .ok (.iconst 3, 1) := by decide +kernel
theorem dX12_isLeakedInto_36 : decode cX12_isLeakedInto 36 = .ok (.iload_n 3, 1) := by decide +kernel
theorem dX12_isLeakedInto_37 : decode cX12_isLeakedInto 37 = .ok (.imul, 1) := by decide +kernel
theorem dX12_isLeakedInto_38 : decode cX12_isLeakedInto 38 = .ok (.iaload, 1) := by decide +kernel
theorem dX12_isLeakedInto_39 : decode cX12_isLeakedInto 39 = .ok (.ifCond .le 7, 3) := by decide +kernel
theorem dX12_isLeakedInto_42 : decode cX12_isLeakedInto 42 = .ok (.iconst 1, 1) := by decide +kernel
theorem dX12_isLeakedInto_43 : decode cX12_isLeakedInto 43 = .ok (.goto 4, 3) := by decide +kernel
theorem dX12_isLeakedInto_46 : decode cX12_isLeakedInto 46 = .ok (.iconst 0, 1) := by decide +kernel
theorem dX12_isLeakedInto_47 : decode cX12_isLeakedInto 47 = .ok (.istore_n 2, 1) := by decide +kernel
theorem dX12_isLeakedInto_48 : decode cX12_isLeakedInto 48 = .ok (.iinc 3 1, 3) := by decide +kernel
theorem dX12_isLeakedInto_51 : decode cX12_isLeakedInto 51 = .ok (.goto (-47), 3) := by decide +kernel
theorem dX12_isLeakedInto_54 : decode cX12_isLeakedInto 54 = .ok (.iload_n 2, 1) := by decide +kernel
theorem dX12_isLeakedInto_55 : decode cX12_isLeakedInto 55 = .ok (.ireturn, 1) := by decide +kernel
theorem dX12_holdsDown_0 : decode cX12_holdsDown 0 = .ok (.iconst 0, 1) := by decide +kernel
theorem dX12_holdsDown_1 : decode cX12_holdsDown 1 = .ok (.istore_n 3, 1) := by decide +kernel
theorem dX12_holdsDown_2 : decode cX12_holdsDown 2 = .ok (.iload_n 3, 1) := by decide +kernel
theorem dX12_holdsDown_3 : decode cX12_holdsDown 3 = .ok (.iconst 5, 1) := by decide +kernel
theorem dX12_holdsDown_4 : decode cX12_holdsDown 4 = .ok (.if_icmp .ge 16, 3) := by decide +kernel
theorem dX12_holdsDown_7 : decode cX12_holdsDown 7 = .ok (.aload_n 0, 1) := by decide +kernel
theorem dX12_holdsDown_8 : decode cX12_holdsDown 8 = .ok (.getfield 141, 3) := by decide +kernel
theorem dX12_holdsDown_11 : decode cX12_holdsDown 11 = .ok (.iload_n 3, 1) := by decide +kernel
theorem dX12_holdsDown_12 : decode cX12_holdsDown 12 = .ok (.iconst 0, 1) := by decide +kernel
theorem dX12_holdsDown_13 : decode cX12_holdsDown 13 = .ok (.iastore, 1) := by decide +kernel
theorem dX12_holdsDown_14 : decode cX12_holdsDown 14 = .ok (.iinc 3 1, 3) := by decide +kernel
theorem dX12_holdsDown_17 : decode cX12_holdsDown 17 = .ok (.goto (-15), 3) := by decide +kernel
theorem dX12_holdsDown_20 : decode cX12_holdsDown 20 = .ok (.iconst 0, 1) := by decide +kernel
theorem dX12_holdsDown_21 : decode cX12_holdsDown 21 = .ok (.istore_n 3, 1) := by decide +kernel
theorem dX12_holdsDown_22 : decode cX12_holdsDown 22 = .ok (.iload_n 3, 1) := by decide +kernel
theorem dX12_holdsDown_23 : decode cX12_holdsDown 23 = .ok (.aload_n 0, 1) := by decide +kernel
theorem dX12_holdsDown_24 : decode cX12_holdsDown 24 = .ok (.getfield 459, 3) := by decide +kernel
theorem dX12_holdsDown_27 : decode cX12_holdsDown 27 = .ok (.if_icmp .ge 35, 3) := by decide +kernel
theorem dX12_holdsDown_30 : decode cX12_holdsDown 30 = .ok (.aload_n 0, 1) := by decide +kernel
theorem dX12_holdsDown_31 : decode cX12_holdsDown 31 = .ok (.getfield 141, 3) := by decide +kernel
theorem dX12_holdsDown_34 : decode cX12_holdsDown 34 = .ok (.aload_n 0, 1) := by decide +kernel
theorem dX12_holdsDown_35 : decode cX12_holdsDown 35 = .ok (.getfield 198, 3) := by decide +kernel
theorem dX12_holdsDown_38 : decode cX12_holdsDown 38 = .ok (.iload_n 3, 1) := by decide +kernel
theorem dX12_holdsDown_39 : decode cX12_holdsDown 39 = .ok (.iaload, 1) := by decide +kernel
theorem dX12_holdsDown_40 : decode cX12_holdsDown 40 = .ok (.dup2, 1) := by decide +kernel
theorem dX12_holdsDown_41 : decode cX12_holdsDown 41 = .ok (.iaload, 1) := by decide +kernel
theorem dX12_holdsDown_42 : decode cX12_holdsDown 42 = .ok (.iload_n 1, 1) := by decide +kernel
theorem dX12_holdsDown_43 : decode cX12_holdsDown 43 = .ok (.iload_n 3, 1) := by decide +kernel
theorem dX12_holdsDown_44 : decode cX12_holdsDown 44 = .ok (.ishr, 1) := by decide +kernel
theorem dX12_holdsDown_45 : decode cX12_holdsDown 45 = .ok (.iconst 1, 1) := by decide +kernel
theorem dX12_holdsDown_46 : decode cX12_holdsDown 46 = .ok (.iand, 1) := by decide +kernel
theorem dX12_holdsDown_47 : decode cX12_holdsDown 47 = .ok (.aload_n 0, 1) := by decide +kernel
theorem dX12_holdsDown_48 : decode cX12_holdsDown 48 = .ok (.getfield 201, 3) := by decide +kernel
theorem dX12_holdsDown_51 : decode cX12_holdsDown 51 = .ok (.iload_n 3, 1) := by decide +kernel
theorem dX12_holdsDown_52 : decode cX12_holdsDown 52 = .ok (.iaload, 1) := by decide +kernel
theorem dX12_holdsDown_53 : decode cX12_holdsDown 53 = .ok (.imul, 1) := by decide +kernel
theorem dX12_holdsDown_54 : decode cX12_holdsDown 54 = .ok (.iadd, 1) := by decide +kernel
theorem dX12_holdsDown_55 : decode cX12_holdsDown 55 = .ok (.iastore, 1) := by decide +kernel
theorem dX12_holdsDown_56 : decode cX12_holdsDown 56 = .ok (.iinc 3 1, 3) := by decide +kernel
theorem dX12_holdsDown_59 : decode cX12_holdsDown 59 = .ok (.goto (-37), 3) := by decide +kernel
theorem dX12_holdsDown_62 : decode cX12_holdsDown 62 = .ok (.aload_n 0, 1) := by decide +kernel
theorem dX12_holdsDown_63 : decode cX12_holdsDown 63 = .ok (.iconst 0, 1) := by decide +kernel
theorem dX12_holdsDown_64 : decode cX12_holdsDown 64 = .ok (.invokevirtual 413, 3) := by decide +kernel
theorem dX12_holdsDown_67 : decode cX12_holdsDown 67 = .ok (.iconst 0, 1) := by decide +kernel
theorem dX12_holdsDown_68 : decode cX12_holdsDown 68 = .ok (.istore_n 3, 1) := by decide +kernel
theorem dX12_holdsDown_69 : decode cX12_holdsDown 69 = .ok (.iload_n 3, 1) := by decide +kernel
theorem dX12_holdsDown_70 : decode cX12_holdsDown 70 = .ok (.aload_n 0, 1) := by decide +kernel
theorem dX12_holdsDown_71 : decode cX12_holdsDown 71 = .ok (.getfield 210, 3) := by decide +kernel
theorem dX12_holdsDown_74 : decode cX12_holdsDown 74 = .ok (.if_icmp .ge 93, 3) := by decide +kernel
theorem dX12_holdsDown_77 : decode cX12_holdsDown 77 = .ok (.aload_n 0, 1) := by decide +kernel
theorem dX12_holdsDown_78 : decode cX12_holdsDown 78 = .ok (.iload_n 3, 1) := by decide +kernel
theorem dX12_holdsDown_79 : decode cX12_holdsDown 79 = .ok (.invokevirtual 462, 3) := by decide +kernel
theorem dX12_holdsDown_82 : decode cX12_holdsDown 82 = .ok (.ifCond .ne 6, 3) := by decide +kernel
theorem dX12_holdsDown_85 : decode cX12_holdsDown 85 = .ok (.goto 76, 3) := by decide +kernel
theorem dX12_holdsDown_88 : decode cX12_holdsDown 88 = .ok (.aload_n 0, 1) := by decide +kernel
theorem dX12_holdsDown_89 : decode cX12_holdsDown 89 = .ok (.getfield 144, 3) := by decide +kernel
theorem dX12_holdsDown_92 : decode cX12_holdsDown 92 = .ok (.iload_n 3, 1) := by decide +kernel
theorem dX12_holdsDown_93 : decode cX12_holdsDown 93 = .ok (.baload, 1) := by decide +kernel
theorem dX12_holdsDown_94 : decode cX12_holdsDown 94 = .ok (.ifCond .eq 5, 3) := by decide +kernel
theorem dX12_holdsDown_97 : decode cX12_holdsDown 97 = .ok (.iconst 0, 1) := by decide +kernel
theorem dX12_holdsDown_98 : decode cX12_holdsDown 98 = .ok (.ireturn, 1) := by decide +kernel
theorem dX12_holdsDown_99 : decode cX12_holdsDown 99 = .ok (.aload_n 0, 1) := by decide +kernel
theorem dX12_holdsDown_100 : decode cX12_holdsDown 100 = .ok (.getfield 134, 3) := by decide +kernel
theorem dX12_holdsDown_103 : decode cX12_holdsDown 103 = .ok (.bipush 6, 2) := by decide +kernel
theorem dX12_holdsDown_105 : decode cX12_holdsDown 105 = .ok (.iload_n 3, 1) := by decide +kernel
theorem dX12_holdsDown_106 : decode cX12_holdsDown 106 = .ok (.imul, 1) := by decide +kernel
theorem dX12_holdsDown_107 : decode cX12_holdsDown 107 = .ok (.iconst 5, 1) := by decide +kernel
theorem dX12_holdsDown_108 : decode cX12_holdsDown 108 = .ok (.iadd, 1) := by decide +kernel
theorem dX12_holdsDown_109 : decode cX12_holdsDown 109 = .ok (.laload, 1) := by decide +kernel
theorem dX12_holdsDown_110 : decode cX12_holdsDown 110 = .ok (.lstore 4, 2) := by decide +kernel
theorem dX12_holdsDown_112 : decode cX12_holdsDown 112 = .ok (.aload_n 0, 1) := by decide +kernel
theorem dX12_holdsDown_113 : decode cX12_holdsDown 113 = .ok (.getfield 134, 3) := by decide +kernel
theorem dX12_holdsDown_116 : decode cX12_holdsDown 116 = .ok (.bipush 6, 2) := by decide +kernel
theorem dX12_holdsDown_118 : decode cX12_holdsDown 118 = .ok (.iload_n 3, 1) := by decide +kernel
theorem dX12_holdsDown_119 : decode cX12_holdsDown 119 = .ok (.imul, 1) := by decide +kernel
theorem dX12_holdsDown_120 : decode cX12_holdsDown 120 = .ok (.iload_n 3, 1) := by decide +kernel
theorem dX12_holdsDown_121 : decode cX12_holdsDown 121 = .ok (.iadd, 1) := by decide +kernel
theorem dX12_holdsDown_122 : decode cX12_holdsDown 122 = .ok (.laload, 1) := by decide +kernel
theorem dX12_holdsDown_123 : decode cX12_holdsDown 123 = .ok (.lstore 6, 2) := by decide +kernel
theorem dX12_holdsDown_125 : decode cX12_holdsDown 125 = .ok (.lload 6, 2) := by decide +kernel
theorem dX12_holdsDown_127 : decode cX12_holdsDown 127 = .ok (.lconst 0, 1) := by decide +kernel
theorem dX12_holdsDown_128 : decode cX12_holdsDown 128 = .ok (.lcmp, 1) := by decide +kernel
theorem dX12_holdsDown_129 : decode cX12_holdsDown 129 = .ok (.ifCond .ge 19, 3) := by decide +kernel
theorem dX12_holdsDown_132 : decode cX12_holdsDown 132 = .ok (.lload 4, 2) := by decide +kernel
theorem dX12_holdsDown_134 : decode cX12_holdsDown 134 = .ok (.lneg, 1) := by decide +kernel
theorem dX12_holdsDown_135 : decode cX12_holdsDown 135 = .ok (.lload 6, 2) := by decide +kernel
theorem dX12_holdsDown_137 : decode cX12_holdsDown 137 = .ok (.lneg, 1) := by decide +kernel
theorem dX12_holdsDown_138 : decode cX12_holdsDown 138 = .ok (.iload_n 2, 1) := by decide +kernel
theorem dX12_holdsDown_139 : decode cX12_holdsDown 139 = .ok (.i2l, 1) := by decide +kernel
theorem dX12_holdsDown_140 : decode cX12_holdsDown 140 = .ok (.lmul, 1) := by decide +kernel
theorem dX12_holdsDown_141 : decode cX12_holdsDown 141 = .ok (.lcmp, 1) := by decide +kernel
theorem dX12_holdsDown_142 : decode cX12_holdsDown 142 = .ok (.ifCond .le 19, 3) := by decide +kernel
theorem dX12_holdsDown_145 : decode cX12_holdsDown 145 = .ok (.goto 14, 3) := by decide +kernel
theorem dX12_holdsDown_148 : decode cX12_holdsDown 148 = .ok (.lload 4, 2) := by decide +kernel
theorem dX12_holdsDown_150 : decode cX12_holdsDown 150 = .ok (.lload 6, 2) := by decide +kernel
theorem dX12_holdsDown_152 : decode cX12_holdsDown 152 = .ok (.iload_n 2, 1) := by decide +kernel
theorem dX12_holdsDown_153 : decode cX12_holdsDown 153 = .ok (.i2l, 1) := by decide +kernel
theorem dX12_holdsDown_154 : decode cX12_holdsDown 154 = .ok (.lmul, 1) := by decide +kernel
theorem dX12_holdsDown_155 : decode cX12_holdsDown 155 = .ok (.lcmp, 1) := by decide +kernel
theorem dX12_holdsDown_156 : decode cX12_holdsDown 156 = .ok (.ifCond .le 5, 3) := by decide +kernel
theorem dX12_holdsDown_159 : decode cX12_holdsDown 159 = .ok (.iconst 0, 1) := by decide +kernel
theorem dX12_holdsDown_160 : decode cX12_holdsDown 160 = .ok (.ireturn, 1) := by decide +kernel
theorem dX12_holdsDown_161 : decode cX12_holdsDown 161 = .ok (.iinc 3 1, 3) := by decide +kernel
theorem dX12_holdsDown_164 : decode cX12_holdsDown 164 = .ok (.goto (-95), 3) := by decide +kernel
theorem dX12_holdsDown_167 : decode cX12_holdsDown 167 = .ok (.iconst 1, 1) := by decide +kernel
theorem dX12_holdsDown_168 : decode cX12_holdsDown 168 = .ok (.ireturn, 1) := by decide +kernel
theorem dX12_plan_0 : decode cX12_plan 0 = .ok (.iload_n 2, 1) := by decide +kernel
theorem dX12_plan_1 : decode cX12_plan 1 = .ok (.i2l, 1) := by decide +kernel
theorem dX12_plan_2 : decode cX12_plan 2 = .ok (.lconst 0, 1) := by decide +kernel
theorem dX12_plan_3 : decode cX12_plan 3 = .ok (.lconst 1, 1) := by decide +kernel
theorem dX12_plan_4 : decode cX12_plan 4 = .ok (.invokestatic 222, 3) := by decide +kernel
theorem dX12_plan_7 : decode cX12_plan 7 = .ok (.ifCond .ne 10, 3) := by decide +kernel
theorem dX12_plan_10 : decode cX12_plan 10 = .ok (.aload_n 0, 1) := by decide +kernel
theorem dX12_plan_11 : decode cX12_plan 11 = .ok (.bipush (-2), 2) := by decide +kernel
theorem dX12_plan_13 : decode cX12_plan 13 = .ok (.invokevirtual 226, 3) := by decide +kernel
theorem dX12_plan_16 : decode cX12_plan 16 = .ok (.ireturn, 1) := by decide +kernel
theorem dX12_plan_17 : decode cX12_plan 17 = .ok (.iload_n 1, 1) := by decide +kernel
theorem dX12_plan_18 : decode cX12_plan 18 = .ok (.i2l, 1) := by decide +kernel
theorem dX12_plan_19 : decode cX12_plan 19 = .ok (.lconst 0, 1) := by decide +kernel
theorem dX12_plan_20 : decode cX12_plan 20 = .ok (.ldc2_w 428, 3) := by decide +kernel
theorem dX12_plan_23 : decode cX12_plan 23 = .ok (.invokestatic 232, 3) := by decide +kernel
theorem dX12_plan_26 : decode cX12_plan 26 = .ok (.istore_n 3, 1) := by decide +kernel
theorem dX12_plan_27 : decode cX12_plan 27 = .ok (.iload_n 3, 1) := by decide +kernel
theorem dX12_plan_28 : decode cX12_plan 28 = .ok (.ifCond .eq 9, 3) := by decide +kernel
theorem dX12_plan_31 : decode cX12_plan 31 = .ok (.aload_n 0, 1) := by decide +kernel
theorem dX12_plan_32 : decode cX12_plan 32 = .ok (.iload_n 3, 1) := by decide +kernel
theorem dX12_plan_33 : decode cX12_plan 33 = .ok (.invokevirtual 226, 3) := by decide +kernel
theorem dX12_plan_36 : decode cX12_plan 36 = .ok (.ireturn, 1) := by decide +kernel
theorem dX12_plan_37 : decode cX12_plan 37 = .ok (.iconst (-1), 1) := by decide +kernel
theorem dX12_plan_38 : decode cX12_plan 38 = .ok (.istore 4, 2) := by decide +kernel
theorem dX12_plan_40 : decode cX12_plan 40 = .ok (.iconst 0, 1) := by decide +kernel
theorem dX12_plan_41 : decode cX12_plan 41 = .ok (.istore 5, 2) := by decide +kernel
theorem dX12_plan_43 : decode cX12_plan 43 = .ok (.iconst 0, 1) := by decide +kernel
theorem dX12_plan_44 : decode cX12_plan 44 = .ok (.istore 6, 2) := by decide +kernel
theorem dX12_plan_46 : decode cX12_plan 46 = .ok (.iload 6, 2) := by decide +kernel
theorem dX12_plan_48 : decode cX12_plan 48 = .ok (.iconst 1, 1) := by decide +kernel
theorem dX12_plan_49 : decode cX12_plan 49 = .ok (.aload_n 0, 1) := by decide +kernel
theorem dX12_plan_50 : decode cX12_plan 50 = .ok (.getfield 459, 3) := by decide +kernel
theorem dX12_plan_53 : decode cX12_plan 53 = .ok (.ishl, 1) := by decide +kernel
theorem dX12_plan_54 : decode cX12_plan 54 = .ok (.if_icmp .ge 83, 3) := by decide +kernel
theorem dX12_plan_57 : decode cX12_plan 57 = .ok (.iconst 0, 1) := by decide +kernel
theorem dX12_plan_58 : decode cX12_plan 58 = .ok (.istore 7, 2) := by decide +kernel
theorem dX12_plan_60 : decode cX12_plan 60 = .ok (.iconst 0, 1) := by decide +kernel
theorem dX12_plan_61 : decode cX12_plan 61 = .ok (.istore 8, 2) := by decide +kernel
theorem dX12_plan_63 : decode cX12_plan 63 = .ok (.iload 8, 2) := by decide +kernel
theorem dX12_plan_65 : decode cX12_plan 65 = .ok (.aload_n 0, 1) := by decide +kernel
theorem dX12_plan_66 : decode cX12_plan 66 = .ok (.getfield 459, 3) := by decide +kernel
theorem dX12_plan_69 : decode cX12_plan 69 = .ok (.if_icmp .ge 29, 3) := by decide +kernel
theorem dX12_plan_72 : decode cX12_plan 72 = .ok (.iload 7, 2) := by decide +kernel
theorem dX12_plan_74 : decode cX12_plan 74 = .ok (.iload 6, 2) := by decide +kernel
theorem dX12_plan_76 : decode cX12_plan 76 = .ok (.iload 8, 2) := by decide +kernel
theorem dX12_plan_78 : decode cX12_plan 78 = .ok (.ishr, 1) := by decide +kernel
theorem dX12_plan_79 : decode cX12_plan 79 = .ok (.iconst 1, 1) := by decide +kernel
theorem dX12_plan_80 : decode cX12_plan 80 = .ok (.iand, 1) := by decide +kernel
theorem dX12_plan_81 : decode cX12_plan 81 = .ok (.aload_n 0, 1) := by decide +kernel
theorem dX12_plan_82 : decode cX12_plan 82 = .ok (.getfield 204, 3) := by decide +kernel
theorem dX12_plan_85 : decode cX12_plan 85 = .ok (.iload 8, 2) := by decide +kernel
theorem dX12_plan_87 : decode cX12_plan 87 = .ok (.iaload, 1) := by decide +kernel
theorem dX12_plan_88 : decode cX12_plan 88 = .ok (.imul, 1) := by decide +kernel
theorem dX12_plan_89 : decode cX12_plan 89 = .ok (.iadd, 1) := by decide +kernel
theorem dX12_plan_90 : decode cX12_plan 90 = .ok (.istore 7, 2) := by decide +kernel
theorem dX12_plan_92 : decode cX12_plan 92 = .ok (.iinc 8 1, 3) := by decide +kernel
theorem dX12_plan_95 : decode cX12_plan 95 = .ok (.goto (-32), 3) := by decide +kernel
theorem dX12_plan_98 : decode cX12_plan 98 = .ok (.iload 4, 2) := by decide +kernel
theorem dX12_plan_100 : decode cX12_plan 100 = .ok (.ifCond .lt 10, 3) := by decide +kernel
theorem dX12_plan_103 : decode cX12_plan 103 = .ok (.iload 7, 2) := by decide +kernel
theorem dX12_plan_105 : decode cX12_plan 105 = .ok (.iload 5, 2) := by decide +kernel
theorem dX12_plan_107 : decode cX12_plan 107 = .ok (.if_icmp .ge 24, 3) := by decide +kernel
theorem dX12_plan_110 : decode cX12_plan 110 = .ok (.aload_n 0, 1) := by decide +kernel
theorem dX12_plan_111 : decode cX12_plan 111 = .ok (.iload 6, 2) := by decide +kernel
theorem dX12_plan_113 : decode cX12_plan 113 = .ok (.iload_n 1, 1) := by decide +kernel
theorem dX12_plan_114 : decode cX12_plan 114 = .ok (.invokevirtual 465, 3) := by decide +kernel
theorem dX12_plan_117 : decode cX12_plan 117 = .ok (.ifCond .ne 6, 3) := by decide +kernel
theorem dX12_plan_120 : decode cX12_plan 120 = .ok (.goto 11, 3) := by decide +kernel
theorem dX12_plan_123 : decode cX12_plan 123 = .ok (.iload 6, 2) := by decide +kernel
theorem dX12_plan_125 : decode cX12_plan 125 = .ok (.istore 4, 2) := by decide +kernel
theorem dX12_plan_127 : decode cX12_plan 127 = .ok (.iload 7, 2) := by decide +kernel
theorem dX12_plan_129 : decode cX12_plan 129 = .ok (.istore 5, 2) := by decide +kernel
theorem dX12_plan_131 : decode cX12_plan 131 = .ok (.iinc 6 1, 3) := by decide +kernel
theorem dX12_plan_134 : decode cX12_plan 134 = .ok (.goto (-88), 3) := by decide +kernel
theorem dX12_plan_137 : decode cX12_plan 137 = .ok (.iload 4, 2) := by decide +kernel
theorem dX12_plan_139 : decode cX12_plan 139 = .ok (.ifCond .ge 8, 3) := by decide +kernel
theorem dX12_plan_142 : decode cX12_plan 142 = .ok (.bipush (-9), 2) := by decide +kernel
theorem dX12_plan_144 : decode cX12_plan 144 = .ok (.goto 14, 3) := by decide +kernel
theorem dX12_plan_147 : decode cX12_plan 147 = .ok (.iload_n 2, 1) := by decide +kernel
theorem dX12_plan_148 : decode cX12_plan 148 = .ok (.ifCond .ne 8, 3) := by decide +kernel
theorem dX12_plan_151 : decode cX12_plan 151 = .ok (.iload 5, 2) := by decide +kernel
theorem dX12_plan_153 : decode cX12_plan 153 = .ok (.goto 5, 3) := by decide +kernel
theorem dX12_plan_156 : decode cX12_plan 156 = .ok (.iload 4, 2) := by decide +kernel
theorem dX12_plan_158 : decode cX12_plan 158 = .ok (.ireturn, 1) := by decide +kernel
theorem dX12_count_0 : decode cX12_count 0 = .ok (.iload_n 1, 1) := by decide +kernel
theorem dX12_count_1 : decode cX12_count 1 = .ok (.i2l, 1) := by decide +kernel
theorem dX12_count_2 : decode cX12_count 2 = .ok (.ldc2_w 469, 3) := by decide +kernel
theorem dX12_count_5 : decode cX12_count 5 = .ok (.ldc2_w 471, 3) := by decide +kernel
theorem dX12_count_8 : decode cX12_count 8 = .ok (.invokestatic 222, 3) := by decide +kernel
theorem dX12_count_11 : decode cX12_count 11 = .ok (.ifCond .eq 13, 3) := by decide +kernel
theorem dX12_count_14 : decode cX12_count 14 = .ok (.aload_n 0, 1) := by decide +kernel
theorem dX12_count_15 : decode cX12_count 15 = .ok (.getfield 7, 3) := by decide +kernel
theorem dX12_count_18 : decode cX12_count 18 = .ok (.iload_n 1, 1) := by decide +kernel
theorem dX12_count_19 : decode cX12_count 19 = .ok (.bipush 10, 2) := by decide +kernel
theorem dX12_count_21 : decode cX12_count 21 = .ok (.isub, 1) := by decide +kernel
theorem dX12_count_22 : decode cX12_count 22 = .ok (.iaload, 1) := by decide +kernel
theorem dX12_count_23 : decode cX12_count 23 = .ok (.ireturn, 1) := by decide +kernel
theorem dX12_count_24 : decode cX12_count 24 = .ok (.iconst 0, 1) := by decide +kernel
theorem dX12_count_25 : decode cX12_count 25 = .ok (.istore_n 2, 1) := by decide +kernel
theorem dX12_count_26 : decode cX12_count 26 = .ok (.iload_n 1, 1) := by decide +kernel
theorem dX12_count_27 : decode cX12_count 27 = .ok (.tableswitch 184 0 8 #[49, 54, 59, 64, 99, 104, 139, 174, 179], 49) := by decide +kernel
theorem dX12_count_76 : decode cX12_count 76 = .ok (.aload_n 0, 1) := by decide +kernel
theorem dX12_count_77 : decode cX12_count 77 = .ok (.getfield 280, 3) := by decide +kernel
theorem dX12_count_80 : decode cX12_count 80 = .ok (.ireturn, 1) := by decide +kernel
theorem dX12_count_81 : decode cX12_count 81 = .ok (.aload_n 0, 1) := by decide +kernel
theorem dX12_count_82 : decode cX12_count 82 = .ok (.getfield 210, 3) := by decide +kernel
theorem dX12_count_85 : decode cX12_count 85 = .ok (.ireturn, 1) := by decide +kernel
theorem dX12_count_86 : decode cX12_count 86 = .ok (.aload_n 0, 1) := by decide +kernel
theorem dX12_count_87 : decode cX12_count 87 = .ok (.getfield 214, 3) := by decide +kernel
theorem dX12_count_90 : decode cX12_count 90 = .ok (.ireturn, 1) := by decide +kernel
theorem dX12_count_91 : decode cX12_count 91 = .ok (.iconst 0, 1) := by decide +kernel
theorem dX12_count_92 : decode cX12_count 92 = .ok (.istore_n 3, 1) := by decide +kernel
theorem dX12_count_93 : decode cX12_count 93 = .ok (.iload_n 3, 1) := by decide +kernel
theorem dX12_count_94 : decode cX12_count 94 = .ok (.aload_n 0, 1) := by decide +kernel
theorem dX12_count_95 : decode cX12_count 95 = .ok (.getfield 214, 3) := by decide +kernel
theorem dX12_count_98 : decode cX12_count 98 = .ok (.if_icmp .ge 26, 3) := by decide +kernel
theorem dX12_count_101 : decode cX12_count 101 = .ok (.iload_n 2, 1) := by decide +kernel
theorem dX12_count_102 : decode cX12_count 102 = .ok (.aload_n 0, 1) := by decide +kernel
theorem dX12_count_103 : decode cX12_count 103 = .ok (.getfield 61, 3) := by decide +kernel
theorem dX12_count_106 : decode cX12_count 106 = .ok (.iload_n 3, 1) := by decide +kernel
theorem dX12_count_107 : decode cX12_count 107 = .ok (.baload, 1) := by decide +kernel
theorem dX12_count_108 : decode cX12_count 108 = .ok (.ifCond .eq 7, 3) := by decide +kernel
theorem dX12_count_111 : decode cX12_count 111 = .ok (.iconst 1, 1) := by decide +kernel
theorem dX12_count_112 : decode cX12_count 112 = .ok (.goto 4, 3) := by decide +kernel
theorem dX12_count_115 : decode cX12_count 115 = .ok (.iconst 0, 1) := by decide +kernel
theorem dX12_count_116 : decode cX12_count 116 = .ok (.iadd, 1) := by decide +kernel
theorem dX12_count_117 : decode cX12_count 117 = .ok (.istore_n 2, 1) := by decide +kernel
theorem dX12_count_118 : decode cX12_count 118 = .ok (.iinc 3 1, 3) := by decide +kernel
theorem dX12_count_121 : decode cX12_count 121 = .ok (.goto (-28), 3) := by decide +kernel
theorem dX12_count_124 : decode cX12_count 124 = .ok (.iload_n 2, 1) := by decide +kernel
theorem dX12_count_125 : decode cX12_count 125 = .ok (.ireturn, 1) := by decide +kernel
theorem dX12_count_126 : decode cX12_count 126 = .ok (.aload_n 0, 1) := by decide +kernel
theorem dX12_count_127 : decode cX12_count 127 = .ok (.getfield 217, 3) := by decide +kernel
theorem dX12_count_130 : decode cX12_count 130 = .ok (.ireturn, 1) := by decide +kernel
theorem dX12_count_131 : decode cX12_count 131 = .ok (.iconst 0, 1) := by decide +kernel
theorem dX12_count_132 : decode cX12_count 132 = .ok (.istore_n 3, 1) := by decide +kernel
theorem dX12_count_133 : decode cX12_count 133 = .ok (.iload_n 3, 1) := by decide +kernel
theorem dX12_count_134 : decode cX12_count 134 = .ok (.aload_n 0, 1) := by decide +kernel
theorem dX12_count_135 : decode cX12_count 135 = .ok (.getfield 217, 3) := by decide +kernel
theorem dX12_count_138 : decode cX12_count 138 = .ok (.if_icmp .ge 26, 3) := by decide +kernel
theorem dX12_count_141 : decode cX12_count 141 = .ok (.iload_n 2, 1) := by decide +kernel
theorem dX12_count_142 : decode cX12_count 142 = .ok (.aload_n 0, 1) := by decide +kernel
theorem dX12_count_143 : decode cX12_count 143 = .ok (.getfield 65, 3) := by decide +kernel
theorem dX12_count_146 : decode cX12_count 146 = .ok (.iload_n 3, 1) := by decide +kernel
theorem dX12_count_147 : decode cX12_count 147 = .ok (.baload, 1) := by decide +kernel
theorem dX12_count_148 : decode cX12_count 148 = .ok (.ifCond .eq 7, 3) := by decide +kernel
theorem dX12_count_151 : decode cX12_count 151 = .ok (.iconst 1, 1) := by decide +kernel
theorem dX12_count_152 : decode cX12_count 152 = .ok (.goto 4, 3) := by decide +kernel
theorem dX12_count_155 : decode cX12_count 155 = .ok (.iconst 0, 1) := by decide +kernel
theorem dX12_count_156 : decode cX12_count 156 = .ok (.iadd, 1) := by decide +kernel
theorem dX12_count_157 : decode cX12_count 157 = .ok (.istore_n 2, 1) := by decide +kernel
theorem dX12_count_158 : decode cX12_count 158 = .ok (.iinc 3 1, 3) := by decide +kernel
theorem dX12_count_161 : decode cX12_count 161 = .ok (.goto (-28), 3) := by decide +kernel
theorem dX12_count_164 : decode cX12_count 164 = .ok (.iload_n 2, 1) := by decide +kernel
theorem dX12_count_165 : decode cX12_count 165 = .ok (.ireturn, 1) := by decide +kernel
theorem dX12_count_166 : decode cX12_count 166 = .ok (.iconst 0, 1) := by decide +kernel
theorem dX12_count_167 : decode cX12_count 167 = .ok (.istore_n 3, 1) := by decide +kernel
theorem dX12_count_168 : decode cX12_count 168 = .ok (.iload_n 3, 1) := by decide +kernel
theorem dX12_count_169 : decode cX12_count 169 = .ok (.aload_n 0, 1) := by decide +kernel
theorem dX12_count_170 : decode cX12_count 170 = .ok (.getfield 336, 3) := by decide +kernel
theorem dX12_count_173 : decode cX12_count 173 = .ok (.if_icmp .ge 26, 3) := by decide +kernel
theorem dX12_count_176 : decode cX12_count 176 = .ok (.iload_n 2, 1) := by decide +kernel
theorem dX12_count_177 : decode cX12_count 177 = .ok (.aload_n 0, 1) := by decide +kernel
theorem dX12_count_178 : decode cX12_count 178 = .ok (.getfield 107, 3) := by decide +kernel
theorem dX12_count_181 : decode cX12_count 181 = .ok (.iload_n 3, 1) := by decide +kernel
theorem dX12_count_182 : decode cX12_count 182 = .ok (.baload, 1) := by decide +kernel
theorem dX12_count_183 : decode cX12_count 183 = .ok (.ifCond .eq 7, 3) := by decide +kernel
theorem dX12_count_186 : decode cX12_count 186 = .ok (.iconst 0, 1) := by decide +kernel
theorem dX12_count_187 : decode cX12_count 187 = .ok (.goto 4, 3) := by decide +kernel
theorem dX12_count_190 : decode cX12_count 190 = .ok (.iconst 1, 1) := by decide +kernel
theorem dX12_count_191 : decode cX12_count 191 = .ok (.iadd, 1) := by decide +kernel
theorem dX12_count_192 : decode cX12_count 192 = .ok (.istore_n 2, 1) := by decide +kernel
theorem dX12_count_193 : decode cX12_count 193 = .ok (.iinc 3 1, 3) := by decide +kernel
theorem dX12_count_196 : decode cX12_count 196 = .ok (.goto (-28), 3) := by decide +kernel
theorem dX12_count_199 : decode cX12_count 199 = .ok (.iload_n 2, 1) := by decide +kernel
theorem dX12_count_200 : decode cX12_count 200 = .ok (.ireturn, 1) := by decide +kernel
theorem dX12_count_201 : decode cX12_count 201 = .ok (.aload_n 0, 1) := by decide +kernel
theorem dX12_count_202 : decode cX12_count 202 = .ok (.getfield 376, 3) := by decide +kernel
theorem dX12_count_205 : decode cX12_count 205 = .ok (.ireturn, 1) := by decide +kernel
theorem dX12_count_206 : decode cX12_count 206 = .ok (.aload_n 0, 1) := by decide +kernel
theorem dX12_count_207 : decode cX12_count 207 = .ok (.getfield 308, 3) := by decide +kernel
theorem dX12_count_210 : decode cX12_count 210 = .ok (.ireturn, 1) := by decide +kernel
theorem dX12_count_211 : decode cX12_count 211 = .ok (.bipush (-9), 2) := by decide +kernel
theorem dX12_count_213 : decode cX12_count 213 = .ok (.ireturn, 1) := by decide +kernel
theorem dJ6_bitCount_0f7a4_0 : decode cJ6_bitCount_0f7a4 0 = .ok (.iload_n 0, 1) := by decide +kernel
theorem dJ6_bitCount_0f7a4_1 : decode cJ6_bitCount_0f7a4 1 = .ok (.iload_n 0, 1) := by decide +kernel
theorem dJ6_bitCount_0f7a4_2 : decode cJ6_bitCount_0f7a4 2 = .ok (.iconst 1, 1) := by decide +kernel
theorem dJ6_bitCount_0f7a4_3 : decode cJ6_bitCount_0f7a4 3 = .ok (.iushr, 1) := by decide +kernel
theorem dJ6_bitCount_0f7a4_4 : decode cJ6_bitCount_0f7a4 4 = .ok (.ldc_w 265, 3) := by decide +kernel
theorem dJ6_bitCount_0f7a4_7 : decode cJ6_bitCount_0f7a4 7 = .ok (.iand, 1) := by decide +kernel
theorem dJ6_bitCount_0f7a4_8 : decode cJ6_bitCount_0f7a4 8 = .ok (.isub, 1) := by decide +kernel
theorem dJ6_bitCount_0f7a4_9 : decode cJ6_bitCount_0f7a4 9 = .ok (.istore_n 0, 1) := by decide +kernel
theorem dJ6_bitCount_0f7a4_10 : decode cJ6_bitCount_0f7a4 10 = .ok (.iload_n 0, 1) := by decide +kernel
theorem dJ6_bitCount_0f7a4_11 : decode cJ6_bitCount_0f7a4 11 = .ok (.ldc_w 266, 3) := by decide +kernel
theorem dJ6_bitCount_0f7a4_14 : decode cJ6_bitCount_0f7a4 14 = .ok (.iand, 1) := by decide +kernel
theorem dJ6_bitCount_0f7a4_15 : decode cJ6_bitCount_0f7a4 15 = .ok (.iload_n 0, 1) := by decide +kernel
theorem dJ6_bitCount_0f7a4_16 : decode cJ6_bitCount_0f7a4 16 = .ok (.iconst 2, 1) := by decide +kernel
theorem dJ6_bitCount_0f7a4_17 : decode cJ6_bitCount_0f7a4 17 = .ok (.iushr, 1) := by decide +kernel
theorem dJ6_bitCount_0f7a4_18 : decode cJ6_bitCount_0f7a4 18 = .ok (.ldc_w 266, 3) := by decide +kernel
theorem dJ6_bitCount_0f7a4_21 : decode cJ6_bitCount_0f7a4 21 = .ok (.iand, 1) := by decide +kernel
theorem dJ6_bitCount_0f7a4_22 : decode cJ6_bitCount_0f7a4 22 = .ok (.iadd, 1) := by decide +kernel
theorem dJ6_bitCount_0f7a4_23 : decode cJ6_bitCount_0f7a4 23 = .ok (.istore_n 0, 1) := by decide +kernel
theorem dJ6_bitCount_0f7a4_24 : decode cJ6_bitCount_0f7a4 24 = .ok (.iload_n 0, 1) := by decide +kernel
theorem dJ6_bitCount_0f7a4_25 : decode cJ6_bitCount_0f7a4 25 = .ok (.iload_n 0, 1) := by decide +kernel
theorem dJ6_bitCount_0f7a4_26 : decode cJ6_bitCount_0f7a4 26 = .ok (.iconst 4, 1) := by decide +kernel
theorem dJ6_bitCount_0f7a4_27 : decode cJ6_bitCount_0f7a4 27 = .ok (.iushr, 1) := by decide +kernel
theorem dJ6_bitCount_0f7a4_28 : decode cJ6_bitCount_0f7a4 28 = .ok (.iadd, 1) := by decide +kernel
theorem dJ6_bitCount_0f7a4_29 : decode cJ6_bitCount_0f7a4 29 = .ok (.ldc_w 267, 3) := by decide +kernel
theorem dJ6_bitCount_0f7a4_32 : decode cJ6_bitCount_0f7a4 32 = .ok (.iand, 1) := by decide +kernel
theorem dJ6_bitCount_0f7a4_33 : decode cJ6_bitCount_0f7a4 33 = .ok (.istore_n 0, 1) := by decide +kernel
theorem dJ6_bitCount_0f7a4_34 : decode cJ6_bitCount_0f7a4 34 = .ok (.iload_n 0, 1) := by decide +kernel
theorem dJ6_bitCount_0f7a4_35 : decode cJ6_bitCount_0f7a4 35 = .ok (.iload_n 0, 1) := by decide +kernel
theorem dJ6_bitCount_0f7a4_36 : decode cJ6_bitCount_0f7a4 36 = .ok (.bipush 8, 2) := by decide +kernel
theorem dJ6_bitCount_0f7a4_38 : decode cJ6_bitCount_0f7a4 38 = .ok (.iushr, 1) := by decide +kernel
theorem dJ6_bitCount_0f7a4_39 : decode cJ6_bitCount_0f7a4 39 = .ok (.iadd, 1) := by decide +kernel
theorem dJ6_bitCount_0f7a4_40 : decode cJ6_bitCount_0f7a4 40 = .ok (.istore_n 0, 1) := by decide +kernel
theorem dJ6_bitCount_0f7a4_41 : decode cJ6_bitCount_0f7a4 41 = .ok (.iload_n 0, 1) := by decide +kernel
theorem dJ6_bitCount_0f7a4_42 : decode cJ6_bitCount_0f7a4 42 = .ok (.iload_n 0, 1) := by decide +kernel
theorem dJ6_bitCount_0f7a4_43 : decode cJ6_bitCount_0f7a4 43 = .ok (.bipush 16, 2) := by decide +kernel
theorem dJ6_bitCount_0f7a4_45 : decode cJ6_bitCount_0f7a4 45 = .ok (.iushr, 1) := by decide +kernel
theorem dJ6_bitCount_0f7a4_46 : decode cJ6_bitCount_0f7a4 46 = .ok (.iadd, 1) := by decide +kernel
theorem dJ6_bitCount_0f7a4_47 : decode cJ6_bitCount_0f7a4 47 = .ok (.istore_n 0, 1) := by decide +kernel
theorem dJ6_bitCount_0f7a4_48 : decode cJ6_bitCount_0f7a4 48 = .ok (.iload_n 0, 1) := by decide +kernel
theorem dJ6_bitCount_0f7a4_49 : decode cJ6_bitCount_0f7a4 49 = .ok (.bipush 63, 2) := by decide +kernel
theorem dJ6_bitCount_0f7a4_51 : decode cJ6_bitCount_0f7a4 51 = .ok (.iand, 1) := by decide +kernel
theorem dJ6_bitCount_0f7a4_52 : decode cJ6_bitCount_0f7a4 52 = .ok (.ireturn, 1) := by decide +kernel
theorem dJ9_floorDiv_7cf53_0 : decode cJ9_floorDiv_7cf53 0 = .ok (.iload_n 0, 1) := by decide +kernel
theorem dJ9_floorDiv_7cf53_1 : decode cJ9_floorDiv_7cf53 1 = .ok (.iload_n 1, 1) := by decide +kernel
theorem dJ9_floorDiv_7cf53_2 : decode cJ9_floorDiv_7cf53 2 = .ok (.idiv, 1) := by decide +kernel
theorem dJ9_floorDiv_7cf53_3 : decode cJ9_floorDiv_7cf53 3 = .ok (.istore_n 2, 1) := by decide +kernel
theorem dJ9_floorDiv_7cf53_4 : decode cJ9_floorDiv_7cf53 4 = .ok (.iload_n 0, 1) := by decide +kernel
theorem dJ9_floorDiv_7cf53_5 : decode cJ9_floorDiv_7cf53 5 = .ok (.iload_n 1, 1) := by decide +kernel
theorem dJ9_floorDiv_7cf53_6 : decode cJ9_floorDiv_7cf53 6 = .ok (.ixor, 1) := by decide +kernel
theorem dJ9_floorDiv_7cf53_7 : decode cJ9_floorDiv_7cf53 7 = .ok (.ifCond .ge 14, 3) := by decide +kernel
theorem dJ9_floorDiv_7cf53_10 : decode cJ9_floorDiv_7cf53 10 = .ok (.iload_n 2, 1) := by decide +kernel
theorem dJ9_floorDiv_7cf53_11 : decode cJ9_floorDiv_7cf53 11 = .ok (.iload_n 1, 1) := by decide +kernel
theorem dJ9_floorDiv_7cf53_12 : decode cJ9_floorDiv_7cf53 12 = .ok (.imul, 1) := by decide +kernel
theorem dJ9_floorDiv_7cf53_13 : decode cJ9_floorDiv_7cf53 13 = .ok (.iload_n 0, 1) := by decide +kernel
theorem dJ9_floorDiv_7cf53_14 : decode cJ9_floorDiv_7cf53 14 = .ok (.if_icmp .eq 7, 3) := by decide +kernel
theorem dJ9_floorDiv_7cf53_17 : decode cJ9_floorDiv_7cf53 17 = .ok (.iload_n 2, 1) := by decide +kernel
theorem dJ9_floorDiv_7cf53_18 : decode cJ9_floorDiv_7cf53 18 = .ok (.iconst 1, 1) := by decide +kernel
theorem dJ9_floorDiv_7cf53_19 : decode cJ9_floorDiv_7cf53 19 = .ok (.isub, 1) := by decide +kernel
theorem dJ9_floorDiv_7cf53_20 : decode cJ9_floorDiv_7cf53 20 = .ok (.ireturn, 1) := by decide +kernel
theorem dJ9_floorDiv_7cf53_21 : decode cJ9_floorDiv_7cf53 21 = .ok (.iload_n 2, 1) := by decide +kernel
theorem dJ9_floorDiv_7cf53_22 : decode cJ9_floorDiv_7cf53 22 = .ok (.ireturn, 1) := by decide +kernel
theorem dJ9_abs_067f4_0 : decode cJ9_abs_067f4 0 = .ok (.lload_n 0, 1) := by decide +kernel
theorem dJ9_abs_067f4_1 : decode cJ9_abs_067f4 1 = .ok (.lconst 0, 1) := by decide +kernel
theorem dJ9_abs_067f4_2 : decode cJ9_abs_067f4 2 = .ok (.lcmp, 1) := by decide +kernel
theorem dJ9_abs_067f4_3 : decode cJ9_abs_067f4 3 = .ok (.ifCond .ge 8, 3) := by decide +kernel
theorem dJ9_abs_067f4_6 : decode cJ9_abs_067f4 6 = .ok (.lload_n 0, 1) := by decide +kernel
theorem dJ9_abs_067f4_7 : decode cJ9_abs_067f4 7 = .ok (.lneg, 1) := by decide +kernel
theorem dJ9_abs_067f4_8 : decode cJ9_abs_067f4 8 = .ok (.goto 4, 3) := by decide +kernel
theorem dJ9_abs_067f4_11 : decode cJ9_abs_067f4 11 = .ok (.lload_n 0, 1) := by decide +kernel
theorem dJ9_abs_067f4_12 : decode cJ9_abs_067f4 12 = .ok (.lreturn, 1) := by decide +kernel
theorem dJ9_max_7cf53_0 : decode cJ9_max_7cf53 0 = .ok (.iload_n 0, 1) := by decide +kernel
theorem dJ9_max_7cf53_1 : decode cJ9_max_7cf53 1 = .ok (.iload_n 1, 1) := by decide +kernel
theorem dJ9_max_7cf53_2 : decode cJ9_max_7cf53 2 = .ok (.if_icmp .lt 7, 3) := by decide +kernel
theorem dJ9_max_7cf53_5 : decode cJ9_max_7cf53 5 = .ok (.iload_n 0, 1) := by decide +kernel
theorem dJ9_max_7cf53_6 : decode cJ9_max_7cf53 6 = .ok (.goto 4, 3) := by decide +kernel
theorem dJ9_max_7cf53_9 : decode cJ9_max_7cf53 9 = .ok (.iload_n 1, 1) := by decide +kernel
theorem dJ9_max_7cf53_10 : decode cJ9_max_7cf53 10 = .ok (.ireturn, 1) := by decide +kernel
theorem dJ9_min_7cf53_0 : decode cJ9_min_7cf53 0 = .ok (.iload_n 0, 1) := by decide +kernel
theorem dJ9_min_7cf53_1 : decode cJ9_min_7cf53 1 = .ok (.iload_n 1, 1) := by decide +kernel
theorem dJ9_min_7cf53_2 : decode cJ9_min_7cf53 2 = .ok (.if_icmp .gt 7, 3) := by decide +kernel
theorem dJ9_min_7cf53_5 : decode cJ9_min_7cf53 5 = .ok (.iload_n 0, 1) := by decide +kernel
theorem dJ9_min_7cf53_6 : decode cJ9_min_7cf53 6 = .ok (.goto 4, 3) := by decide +kernel
theorem dJ9_min_7cf53_9 : decode cJ9_min_7cf53 9 = .ok (.iload_n 1, 1) := by decide +kernel
theorem dJ9_min_7cf53_10 : decode cJ9_min_7cf53 10 = .ok (.ireturn, 1) := by decide +kernel
theorem dJ9_min_f86c9_0 : decode cJ9_min_f86c9 0 = .ok (.lload_n 0, 1) := by decide +kernel
theorem dJ9_min_f86c9_1 : decode cJ9_min_f86c9 1 = .ok (.lload_n 2, 1) := by decide +kernel
theorem dJ9_min_f86c9_2 : decode cJ9_min_f86c9 2 = .ok (.lcmp, 1) := by decide +kernel
theorem dJ9_min_f86c9_3 : decode cJ9_min_f86c9 3 = .ok (.ifCond .gt 7, 3) := by decide +kernel
theorem dJ9_min_f86c9_6 : decode cJ9_min_f86c9 6 = .ok (.lload_n 0, 1) := by decide +kernel
theorem dJ9_min_f86c9_7 : decode cJ9_min_f86c9 7 = .ok (.goto 4, 3) := by decide +kernel
theorem dJ9_min_f86c9_10 : decode cJ9_min_f86c9 10 = .ok (.lload_n 2, 1) := by decide +kernel
theorem dJ9_min_f86c9_11 : decode cJ9_min_f86c9 11 = .ok (.lreturn, 1) := by decide +kernel
theorem dJ7_fill_d0a16_0 : decode cJ7_fill_d0a16 0 = .ok (.iconst 0, 1) := by decide +kernel
theorem dJ7_fill_d0a16_1 : decode cJ7_fill_d0a16 1 = .ok (.istore_n 3, 1) := by decide +kernel
theorem dJ7_fill_d0a16_2 : decode cJ7_fill_d0a16 2 = .ok (.aload_n 0, 1) := by decide +kernel
theorem dJ7_fill_d0a16_3 : decode cJ7_fill_d0a16 3 = .ok (.arraylength, 1) := by decide +kernel
theorem dJ7_fill_d0a16_4 : decode cJ7_fill_d0a16 4 = .ok (.istore 4, 2) := by decide +kernel
theorem dJ7_fill_d0a16_6 : decode cJ7_fill_d0a16 6 = .ok (.iload_n 3, 1) := by decide +kernel
theorem dJ7_fill_d0a16_7 : decode cJ7_fill_d0a16 7 = .ok (.iload 4, 2) := by decide +kernel
theorem dJ7_fill_d0a16_9 : decode cJ7_fill_d0a16 9 = .ok (.if_icmp .ge 13, 3) := by decide +kernel
theorem dJ7_fill_d0a16_12 : decode cJ7_fill_d0a16 12 = .ok (.aload_n 0, 1) := by decide +kernel
theorem dJ7_fill_d0a16_13 : decode cJ7_fill_d0a16 13 = .ok (.iload_n 3, 1) := by decide +kernel
theorem dJ7_fill_d0a16_14 : decode cJ7_fill_d0a16 14 = .ok (.lload_n 1, 1) := by decide +kernel
theorem dJ7_fill_d0a16_15 : decode cJ7_fill_d0a16 15 = .ok (.lastore, 1) := by decide +kernel
theorem dJ7_fill_d0a16_16 : decode cJ7_fill_d0a16 16 = .ok (.iinc 3 1, 3) := by decide +kernel
theorem dJ7_fill_d0a16_19 : decode cJ7_fill_d0a16 19 = .ok (.goto (-13), 3) := by decide +kernel
theorem dJ7_fill_d0a16_22 : decode cJ7_fill_d0a16 22 = .ok (.return_, 1) := by decide +kernel
theorem dJ7_fill_53178_0 : decode cJ7_fill_53178 0 = .ok (.iconst 0, 1) := by decide +kernel
theorem dJ7_fill_53178_1 : decode cJ7_fill_53178 1 = .ok (.istore_n 2, 1) := by decide +kernel
theorem dJ7_fill_53178_2 : decode cJ7_fill_53178 2 = .ok (.aload_n 0, 1) := by decide +kernel
theorem dJ7_fill_53178_3 : decode cJ7_fill_53178 3 = .ok (.arraylength, 1) := by decide +kernel
theorem dJ7_fill_53178_4 : decode cJ7_fill_53178 4 = .ok (.istore_n 3, 1) := by decide +kernel
theorem dJ7_fill_53178_5 : decode cJ7_fill_53178 5 = .ok (.iload_n 2, 1) := by decide +kernel
theorem dJ7_fill_53178_6 : decode cJ7_fill_53178 6 = .ok (.iload_n 3, 1) := by decide +kernel
theorem dJ7_fill_53178_7 : decode cJ7_fill_53178 7 = .ok (.if_icmp .ge 13, 3) := by decide +kernel
theorem dJ7_fill_53178_10 : decode cJ7_fill_53178 10 = .ok (.aload_n 0, 1) := by decide +kernel
theorem dJ7_fill_53178_11 : decode cJ7_fill_53178 11 = .ok (.iload_n 2, 1) := by decide +kernel
theorem dJ7_fill_53178_12 : decode cJ7_fill_53178 12 = .ok (.iload_n 1, 1) := by decide +kernel
theorem dJ7_fill_53178_13 : decode cJ7_fill_53178 13 = .ok (.iastore, 1) := by decide +kernel
theorem dJ7_fill_53178_14 : decode cJ7_fill_53178 14 = .ok (.iinc 2 1, 3) := by decide +kernel
theorem dJ7_fill_53178_17 : decode cJ7_fill_53178 17 = .ok (.goto (-12), 3) := by decide +kernel
theorem dJ7_fill_53178_20 : decode cJ7_fill_53178 20 = .ok (.return_, 1) := by decide +kernel
theorem dL_law_0 : decode cL_law 0 = .ok (.new 7, 3) := by decide +kernel
theorem dL_law_3 : decode cL_law 3 = .ok (.dup, 1) := by decide +kernel
theorem dL_law_4 : decode cL_law 4 = .ok (.invokespecial 9, 3) := by decide +kernel
theorem dL_law_7 : decode cL_law 7 = .ok (.astore_n 1, 1) := by decide +kernel
theorem dL_law_8 : decode cL_law 8 = .ok (.new 10, 3) := by decide +kernel
theorem dL_law_11 : decode cL_law 11 = .ok (.dup, 1) := by decide +kernel
theorem dL_law_12 : decode cL_law 12 = .ok (.invokespecial 12, 3) := by decide +kernel
theorem dL_law_15 : decode cL_law 15 = .ok (.astore_n 2, 1) := by decide +kernel
theorem dL_law_16 : decode cL_law 16 = .ok (.iconst 0, 1) := by decide +kernel
theorem dL_law_17 : decode cL_law 17 = .ok (.istore_n 3, 1) := by decide +kernel
theorem dL_law_18 : decode cL_law 18 = .ok (.iload_n 3, 1) := by decide +kernel
theorem dL_law_19 : decode cL_law 19 = .ok (.aload_n 0, 1) := by decide +kernel
theorem dL_law_20 : decode cL_law 20 = .ok (.arraylength, 1) := by decide +kernel
theorem dL_law_21 : decode cL_law 21 = .ok (.bipush 6, 2) := by decide +kernel
theorem dL_law_23 : decode cL_law 23 = .ok (.isub, 1) := by decide +kernel
theorem dL_law_24 : decode cL_law 24 = .ok (.if_icmp .gt 1745, 3) := by decide +kernel
theorem dL_law_27 : decode cL_law 27 = .ok (.aload_n 0, 1) := by decide +kernel
theorem dL_law_28 : decode cL_law 28 = .ok (.iload_n 3, 1) := by decide +kernel
theorem dL_law_29 : decode cL_law 29 = .ok (.iaload, 1) := by decide +kernel
theorem dL_law_30 : decode cL_law 30 = .ok (.bipush 63, 2) := by decide +kernel
theorem dL_law_32 : decode cL_law 32 = .ok (.iand, 1) := by decide +kernel
theorem dL_law_33 : decode cL_law 33 = .ok (.tableswitch 1730 0 40 #[179, 212, 245, 314, 357, 400, 463, 506, 529, 572, 605, 638, 681, 744, 757, 780, 829, 878, 927, 950, 963, 976, 1009, 1053, 1112, 1155, 1198, 1231, 1264, 1297, 1360, 1383, 1416, 1449, 1482, 1531, 1544, 1567, 1631, 1674, 1707], 179) := by decide +kernel
theorem dL_law_212 : decode cL_law 212 = .ok (.aload_n 1, 1) := by decide +kernel
theorem dL_law_213 : decode cL_law 213 = .ok (.aload_n 0, 1) := by decide +kernel
theorem dL_law_214 : decode cL_law 214 = .ok (.iload_n 3, 1) := by decide +kernel
theorem dL_law_215 : decode cL_law 215 = .ok (.iconst 1, 1) := by decide +kernel
theorem dL_law_216 : decode cL_law 216 = .ok (.iadd, 1) := by decide +kernel
theorem dL_law_217 : decode cL_law 217 = .ok (.iaload, 1) := by decide +kernel
theorem dL_law_218 : decode cL_law 218 = .ok (.aload_n 0, 1) := by decide +kernel
theorem dL_law_219 : decode cL_law 219 = .ok (.iload_n 3, 1) := by decide +kernel
theorem dL_law_220 : decode cL_law 220 = .ok (.iconst 2, 1) := by decide +kernel
theorem dL_law_221 : decode cL_law 221 = .ok (.iadd, 1) := by decide +kernel
theorem dL_law_222 : decode cL_law 222 = .ok (.iaload, 1) := by decide +kernel
theorem dL_law_223 : decode cL_law 223 = .ok (.invokevirtual 13, 3) := by decide +kernel
theorem dL_law_226 : decode cL_law 226 = .ok (.aload_n 2, 1) := by decide +kernel
theorem dL_law_227 : decode cL_law 227 = .ok (.aload_n 0, 1) := by decide +kernel
theorem dL_law_228 : decode cL_law 228 = .ok (.iload_n 3, 1) := by decide +kernel
theorem dL_law_229 : decode cL_law 229 = .ok (.iconst 1, 1) := by decide +kernel
theorem dL_law_230 : decode cL_law 230 = .ok (.iadd, 1) := by decide +kernel
theorem dL_law_231 : decode cL_law 231 = .ok (.iaload, 1) := by decide +kernel
theorem dL_law_232 : decode cL_law 232 = .ok (.aload_n 0, 1) := by decide +kernel
theorem dL_law_233 : decode cL_law 233 = .ok (.iload_n 3, 1) := by decide +kernel
theorem dL_law_234 : decode cL_law 234 = .ok (.iconst 2, 1) := by decide +kernel
theorem dL_law_235 : decode cL_law 235 = .ok (.iadd, 1) := by decide +kernel
theorem dL_law_236 : decode cL_law 236 = .ok (.iaload, 1) := by decide +kernel
theorem dL_law_237 : decode cL_law 237 = .ok (.invokevirtual 17, 3) := by decide +kernel
theorem dL_law_240 : decode cL_law 240 = .ok (.if_icmp .eq 1523, 3) := by decide +kernel
theorem dL_law_243 : decode cL_law 243 = .ok (.iconst 0, 1) := by decide +kernel
theorem dL_law_244 : decode cL_law 244 = .ok (.ireturn, 1) := by decide +kernel
theorem dL_law_245 : decode cL_law 245 = .ok (.aload_n 1, 1) := by decide +kernel
theorem dL_law_246 : decode cL_law 246 = .ok (.aload_n 0, 1) := by decide +kernel
theorem dL_law_247 : decode cL_law 247 = .ok (.iload_n 3, 1) := by decide +kernel
theorem dL_law_248 : decode cL_law 248 = .ok (.iconst 1, 1) := by decide +kernel
theorem dL_law_249 : decode cL_law 249 = .ok (.iadd, 1) := by decide +kernel
theorem dL_law_250 : decode cL_law 250 = .ok (.iaload, 1) := by decide +kernel
theorem dL_law_251 : decode cL_law 251 = .ok (.aload_n 0, 1) := by decide +kernel
theorem dL_law_252 : decode cL_law 252 = .ok (.iload_n 3, 1) := by decide +kernel
theorem dL_law_253 : decode cL_law 253 = .ok (.iconst 2, 1) := by decide +kernel
theorem dL_law_254 : decode cL_law 254 = .ok (.iadd, 1) := by decide +kernel
theorem dL_law_255 : decode cL_law 255 = .ok (.iaload, 1) := by decide +kernel
theorem dL_law_256 : decode cL_law 256 = .ok (.invokevirtual 18, 3) := by decide +kernel
theorem dL_law_259 : decode cL_law 259 = .ok (.aload_n 2, 1) := by decide +kernel
theorem dL_law_260 : decode cL_law 260 = .ok (.aload_n 0, 1) := by decide +kernel
theorem dL_law_261 : decode cL_law 261 = .ok (.iload_n 3, 1) := by decide +kernel
theorem dL_law_262 : decode cL_law 262 = .ok (.iconst 1, 1) := by decide +kernel
theorem dL_law_263 : decode cL_law 263 = .ok (.iadd, 1) := by decide +kernel
theorem dL_law_264 : decode cL_law 264 = .ok (.iaload, 1) := by decide +kernel
theorem dL_law_265 : decode cL_law 265 = .ok (.aload_n 0, 1) := by decide +kernel
theorem dL_law_266 : decode cL_law 266 = .ok (.iload_n 3, 1) := by decide +kernel
theorem dL_law_267 : decode cL_law 267 = .ok (.iconst 2, 1) := by decide +kernel
theorem dL_law_268 : decode cL_law 268 = .ok (.iadd, 1) := by decide +kernel
theorem dL_law_269 : decode cL_law 269 = .ok (.iaload, 1) := by decide +kernel
theorem dL_law_270 : decode cL_law 270 = .ok (.invokevirtual 21, 3) := by decide +kernel
theorem dL_law_273 : decode cL_law 273 = .ok (.if_icmp .eq 1490, 3) := by decide +kernel
theorem dL_law_276 : decode cL_law 276 = .ok (.iconst 0, 1) := by decide +kernel
theorem dL_law_277 : decode cL_law 277 = .ok (.ireturn, 1) := by decide +kernel
theorem dL_law_278 : decode cL_law 278 = .ok (.aload_n 1, 1) := by decide +kernel
theorem dL_law_279 : decode cL_law 279 = .ok (.aload_n 0, 1) := by decide +kernel
theorem dL_law_280 : decode cL_law 280 = .ok (.iload_n 3, 1) := by decide +kernel
theorem dL_law_281 : decode cL_law 281 = .ok (.iconst 1, 1) := by decide +kernel
theorem dL_law_282 : decode cL_law 282 = .ok (.iadd, 1) := by decide +kernel
theorem dL_law_283 : decode cL_law 283 = .ok (.iaload, 1) := by decide +kernel
theorem dL_law_284 : decode cL_law 284 = .ok (.aload_n 0, 1) := by decide +kernel
theorem dL_law_285 : decode cL_law 285 = .ok (.iload_n 3, 1) := by decide +kernel
theorem dL_law_286 : decode cL_law 286 = .ok (.iconst 2, 1) := by decide +kernel
theorem dL_law_287 : decode cL_law 287 = .ok (.iadd, 1) := by decide +kernel
theorem dL_law_288 : decode cL_law 288 = .ok (.iaload, 1) := by decide +kernel
theorem dL_law_289 : decode cL_law 289 = .ok (.aload_n 0, 1) := by decide +kernel
theorem dL_law_290 : decode cL_law 290 = .ok (.iload_n 3, 1) := by decide +kernel
theorem dL_law_291 : decode cL_law 291 = .ok (.iconst 3, 1) := by decide +kernel
theorem dL_law_292 : decode cL_law 292 = .ok (.iadd, 1) := by decide +kernel
theorem dL_law_293 : decode cL_law 293 = .ok (.iaload, 1) := by decide +kernel
theorem dL_law_294 : decode cL_law 294 = .ok (.aload_n 0, 1) := by decide +kernel
theorem dL_law_295 : decode cL_law 295 = .ok (.iload_n 3, 1) := by decide +kernel
theorem dL_law_296 : decode cL_law 296 = .ok (.iconst 4, 1) := by decide +kernel
theorem dL_law_297 : decode cL_law 297 = .ok (.iadd, 1) := by decide +kernel
theorem dL_law_298 : decode cL_law 298 = .ok (.iaload, 1) := by decide +kernel
theorem dL_law_299 : decode cL_law 299 = .ok (.ifCond .eq 7, 3) := by decide +kernel
theorem dL_law_302 : decode cL_law 302 = .ok (.iconst 1, 1) := by decide +kernel
theorem dL_law_303 : decode cL_law 303 = .ok (.goto 4, 3) := by decide +kernel
theorem dL_law_306 : decode cL_law 306 = .ok (.iconst 0, 1) := by decide +kernel
theorem dL_law_307 : decode cL_law 307 = .ok (.invokevirtual 22, 3) := by decide +kernel
theorem dL_law_310 : decode cL_law 310 = .ok (.aload_n 2, 1) := by decide +kernel
theorem dL_law_311 : decode cL_law 311 = .ok (.aload_n 0, 1) := by decide +kernel
theorem dL_law_312 : decode cL_law 312 = .ok (.iload_n 3, 1) := by decide +kernel
theorem dL_law_313 : decode cL_law 313 = .ok (.iconst 1, 1) := by decide +kernel
theorem dL_law_314 : decode cL_law 314 = .ok (.iadd, 1) := by decide +kernel
theorem dL_law_315 : decode cL_law 315 = .ok (.iaload, 1) := by decide +kernel
theorem dL_law_316 : decode cL_law 316 = .ok (.aload_n 0, 1) := by decide +kernel
theorem dL_law_317 : decode cL_law 317 = .ok (.iload_n 3, 1) := by decide +kernel
theorem dL_law_318 : decode cL_law 318 = .ok (.iconst 2, 1) := by decide +kernel
theorem dL_law_319 : decode cL_law 319 = .ok (.iadd, 1) := by decide +kernel
theorem dL_law_320 : decode cL_law 320 = .ok (.iaload, 1) := by decide +kernel
theorem dL_law_321 : decode cL_law 321 = .ok (.aload_n 0, 1) := by decide +kernel
theorem dL_law_322 : decode cL_law 322 = .ok (.iload_n 3, 1) := by decide +kernel
theorem dL_law_323 : decode cL_law 323 = .ok (.iconst 3, 1) := by decide +kernel
theorem dL_law_324 : decode cL_law 324 = .ok (.iadd, 1) := by decide +kernel
theorem dL_law_325 : decode cL_law 325 = .ok (.iaload, 1) := by decide +kernel
theorem dL_law_326 : decode cL_law 326 = .ok (.aload_n 0, 1) := by decide +kernel
theorem dL_law_327 : decode cL_law 327 = .ok (.iload_n 3, 1) := by decide +kernel
theorem dL_law_328 : decode cL_law 328 = .ok (.iconst 4, 1) := by decide +kernel
theorem dL_law_329 : decode cL_law 329 = .ok (.iadd, 1) := by decide +kernel
theorem dL_law_330 : decode cL_law 330 = .ok (.iaload, 1) := by decide +kernel
theorem dL_law_331 : decode cL_law 331 = .ok (.ifCond .eq 7, 3) := by decide +kernel
theorem dL_law_334 : decode cL_law 334 = .ok (.iconst 1, 1) := by decide +kernel
theorem dL_law_335 : decode cL_law 335 = .ok (.goto 4, 3) := by decide +kernel
theorem dL_law_338 : decode cL_law 338 = .ok (.iconst 0, 1) := by decide +kernel
theorem dL_law_339 : decode cL_law 339 = .ok (.invokevirtual 26, 3) := by decide +kernel
theorem dL_law_342 : decode cL_law 342 = .ok (.if_icmp .eq 1421, 3) := by decide +kernel
theorem dL_law_345 : decode cL_law 345 = .ok (.iconst 0, 1) := by decide +kernel
theorem dL_law_346 : decode cL_law 346 = .ok (.ireturn, 1) := by decide +kernel
theorem dL_law_347 : decode cL_law 347 = .ok (.aload_n 1, 1) := by decide +kernel
theorem dL_law_348 : decode cL_law 348 = .ok (.aload_n 0, 1) := by decide +kernel
theorem dL_law_349 : decode cL_law 349 = .ok (.iload_n 3, 1) := by decide +kernel
theorem dL_law_350 : decode cL_law 350 = .ok (.iconst 1, 1) := by decide +kernel
theorem dL_law_351 : decode cL_law 351 = .ok (.iadd, 1) := by decide +kernel
theorem dL_law_352 : decode cL_law 352 = .ok (.iaload, 1) := by decide +kernel
theorem dL_law_353 : decode cL_law 353 = .ok (.aload_n 0, 1) := by decide +kernel
theorem dL_law_354 : decode cL_law 354 = .ok (.iload_n 3, 1) := by decide +kernel
theorem dL_law_355 : decode cL_law 355 = .ok (.iconst 2, 1) := by decide +kernel
theorem dL_law_356 : decode cL_law 356 = .ok (.iadd, 1) := by decide +kernel
theorem dL_law_357 : decode cL_law 357 = .ok (.iaload, 1) := by decide +kernel
theorem dL_law_358 : decode cL_law 358 = .ok (.aload_n 0, 1) := by decide +kernel
theorem dL_law_359 : decode cL_law 359 = .ok (.iload_n 3, 1) := by decide +kernel
theorem dL_law_360 : decode cL_law 360 = .ok (.iconst 3, 1) := by decide +kernel
theorem dL_law_361 : decode cL_law 361 = .ok (.iadd, 1) := by decide +kernel
theorem dL_law_362 : decode cL_law 362 = .ok (.iaload, 1) := by decide +kernel
theorem dL_law_363 : decode cL_law 363 = .ok (.invokevirtual 27, 3) := by decide +kernel
theorem dL_law_366 : decode cL_law 366 = .ok (.aload_n 2, 1) := by decide +kernel
theorem dL_law_367 : decode cL_law 367 = .ok (.aload_n 0, 1) := by decide +kernel
theorem dL_law_368 : decode cL_law 368 = .ok (.iload_n 3, 1) := by decide +kernel
theorem dL_law_369 : decode cL_law 369 = .ok (.iconst 1, 1) := by decide +kernel
theorem dL_law_370 : decode cL_law 370 = .ok (.iadd, 1) := by decide +kernel
theorem dL_law_371 : decode cL_law 371 = .ok (.iaload, 1) := by decide +kernel
theorem dL_law_372 : decode cL_law 372 = .ok (.aload_n 0, 1) := by decide +kernel
theorem dL_law_373 : decode cL_law 373 = .ok (.iload_n 3, 1) := by decide +kernel
theorem dL_law_374 : decode cL_law 374 = .ok (.iconst 2, 1) := by decide +kernel
theorem dL_law_375 : decode cL_law 375 = .ok (.iadd, 1) := by decide +kernel
theorem dL_law_376 : decode cL_law 376 = .ok (.iaload, 1) := by decide +kernel
theorem dL_law_377 : decode cL_law 377 = .ok (.aload_n 0, 1) := by decide +kernel
theorem dL_law_378 : decode cL_law 378 = .ok (.iload_n 3, 1) := by decide +kernel
theorem dL_law_379 : decode cL_law 379 = .ok (.iconst 3, 1) := by decide +kernel
theorem dL_law_380 : decode cL_law 380 = .ok (.iadd, 1) := by decide +kernel
theorem dL_law_381 : decode cL_law 381 = .ok (.iaload, 1) := by decide +kernel
theorem dL_law_382 : decode cL_law 382 = .ok (.invokevirtual 31, 3) := by decide +kernel
theorem dL_law_385 : decode cL_law 385 = .ok (.if_icmp .eq 1378, 3) := by decide +kernel
theorem dL_law_388 : decode cL_law 388 = .ok (.iconst 0, 1) := by decide +kernel
theorem dL_law_389 : decode cL_law 389 = .ok (.ireturn, 1) := by decide +kernel
theorem dL_law_390 : decode cL_law 390 = .ok (.aload_n 1, 1) := by decide +kernel
theorem dL_law_391 : decode cL_law 391 = .ok (.aload_n 0, 1) := by decide +kernel
theorem dL_law_392 : decode cL_law 392 = .ok (.iload_n 3, 1) := by decide +kernel
theorem dL_law_393 : decode cL_law 393 = .ok (.iconst 1, 1) := by decide +kernel
theorem dL_law_394 : decode cL_law 394 = .ok (.iadd, 1) := by decide +kernel
theorem dL_law_395 : decode cL_law 395 = .ok (.iaload, 1) := by decide +kernel
theorem dL_law_396 : decode cL_law 396 = .ok (.aload_n 0, 1) := by decide +kernel
theorem dL_law_397 : decode cL_law 397 = .ok (.iload_n 3, 1) := by decide +kernel
theorem dL_law_398 : decode cL_law 398 = .ok (.iconst 2, 1) := by decide +kernel
theorem dL_law_399 : decode cL_law 399 = .ok (.iadd, 1) := by decide +kernel
theorem dL_law_400 : decode cL_law 400 = .ok (.iaload, 1) := by decide +kernel
theorem dL_law_401 : decode cL_law 401 = .ok (.aload_n 0, 1) := by decide +kernel
theorem dL_law_402 : decode cL_law 402 = .ok (.iload_n 3, 1) := by decide +kernel
theorem dL_law_403 : decode cL_law 403 = .ok (.iconst 3, 1) := by decide +kernel
theorem dL_law_404 : decode cL_law 404 = .ok (.iadd, 1) := by decide +kernel
theorem dL_law_405 : decode cL_law 405 = .ok (.iaload, 1) := by decide +kernel
theorem dL_law_406 : decode cL_law 406 = .ok (.invokevirtual 32, 3) := by decide +kernel
theorem dL_law_409 : decode cL_law 409 = .ok (.aload_n 2, 1) := by decide +kernel
theorem dL_law_410 : decode cL_law 410 = .ok (.aload_n 0, 1) := by decide +kernel
theorem dL_law_411 : decode cL_law 411 = .ok (.iload_n 3, 1) := by decide +kernel
theorem dL_law_412 : decode cL_law 412 = .ok (.iconst 1, 1) := by decide +kernel
theorem dL_law_413 : decode cL_law 413 = .ok (.iadd, 1) := by decide +kernel
theorem dL_law_414 : decode cL_law 414 = .ok (.iaload, 1) := by decide +kernel
theorem dL_law_415 : decode cL_law 415 = .ok (.aload_n 0, 1) := by decide +kernel
theorem dL_law_416 : decode cL_law 416 = .ok (.iload_n 3, 1) := by decide +kernel
theorem dL_law_417 : decode cL_law 417 = .ok (.iconst 2, 1) := by decide +kernel
theorem dL_law_418 : decode cL_law 418 = .ok (.iadd, 1) := by decide +kernel
theorem dL_law_419 : decode cL_law 419 = .ok (.iaload, 1) := by decide +kernel
theorem dL_law_420 : decode cL_law 420 = .ok (.aload_n 0, 1) := by decide +kernel
theorem dL_law_421 : decode cL_law 421 = .ok (.iload_n 3, 1) := by decide +kernel
theorem dL_law_422 : decode cL_law 422 = .ok (.iconst 3, 1) := by decide +kernel
theorem dL_law_423 : decode cL_law 423 = .ok (.iadd, 1) := by decide +kernel
theorem dL_law_424 : decode cL_law 424 = .ok (.iaload, 1) := by decide +kernel
theorem dL_law_425 : decode cL_law 425 = .ok (.invokevirtual 35, 3) := by decide +kernel
theorem dL_law_428 : decode cL_law 428 = .ok (.if_icmp .eq 1335, 3) := by decide +kernel
theorem dL_law_431 : decode cL_law 431 = .ok (.iconst 0, 1) := by decide +kernel
theorem dL_law_432 : decode cL_law 432 = .ok (.ireturn, 1) := by decide +kernel
theorem dL_law_433 : decode cL_law 433 = .ok (.aload_n 1, 1) := by decide +kernel
theorem dL_law_434 : decode cL_law 434 = .ok (.aload_n 0, 1) := by decide +kernel
theorem dL_law_435 : decode cL_law 435 = .ok (.iload_n 3, 1) := by decide +kernel
theorem dL_law_436 : decode cL_law 436 = .ok (.iconst 1, 1) := by decide +kernel
theorem dL_law_437 : decode cL_law 437 = .ok (.iadd, 1) := by decide +kernel
theorem dL_law_438 : decode cL_law 438 = .ok (.iaload, 1) := by decide +kernel
theorem dL_law_439 : decode cL_law 439 = .ok (.aload_n 0, 1) := by decide +kernel
theorem dL_law_440 : decode cL_law 440 = .ok (.iload_n 3, 1) := by decide +kernel
theorem dL_law_441 : decode cL_law 441 = .ok (.iconst 2, 1) := by decide +kernel
theorem dL_law_442 : decode cL_law 442 = .ok (.iadd, 1) := by decide +kernel
theorem dL_law_443 : decode cL_law 443 = .ok (.iaload, 1) := by decide +kernel
theorem dL_law_444 : decode cL_law 444 = .ok (.aload_n 0, 1) := by decide +kernel
theorem dL_law_445 : decode cL_law 445 = .ok (.iload_n 3, 1) := by decide +kernel
theorem dL_law_446 : decode cL_law 446 = .ok (.iconst 3, 1) := by decide +kernel
theorem dL_law_447 : decode cL_law 447 = .ok (.iadd, 1) := by decide +kernel
theorem dL_law_448 : decode cL_law 448 = .ok (.iaload, 1) := by decide +kernel
theorem dL_law_449 : decode cL_law 449 = .ok (.aload_n 0, 1) := by decide +kernel
theorem dL_law_450 : decode cL_law 450 = .ok (.iload_n 3, 1) := by decide +kernel
theorem dL_law_451 : decode cL_law 451 = .ok (.iconst 4, 1) := by decide +kernel
theorem dL_law_452 : decode cL_law 452 = .ok (.iadd, 1) := by decide +kernel
theorem dL_law_453 : decode cL_law 453 = .ok (.iaload, 1) := by decide +kernel
theorem dL_law_454 : decode cL_law 454 = .ok (.aload_n 0, 1) := by decide +kernel
theorem dL_law_455 : decode cL_law 455 = .ok (.iload_n 3, 1) := by decide +kernel
theorem dL_law_456 : decode cL_law 456 = .ok (.iconst 5, 1) := by decide +kernel
theorem dL_law_457 : decode cL_law 457 = .ok (.iadd, 1) := by decide +kernel
theorem dL_law_458 : decode cL_law 458 = .ok (.iaload, 1) := by decide +kernel
theorem dL_law_459 : decode cL_law 459 = .ok (.invokevirtual 36, 3) := by decide +kernel
theorem dL_law_462 : decode cL_law 462 = .ok (.aload_n 2, 1) := by decide +kernel
theorem dL_law_463 : decode cL_law 463 = .ok (.aload_n 0, 1) := by decide +kernel
theorem dL_law_464 : decode cL_law 464 = .ok (.iload_n 3, 1) := by decide +kernel
theorem dL_law_465 : decode cL_law 465 = .ok (.iconst 1, 1) := by decide +kernel
theorem dL_law_466 : decode cL_law 466 = .ok (.iadd, 1) := by decide +kernel
theorem dL_law_467 : decode cL_law 467 = .ok (.iaload, 1) := by decide +kernel
theorem dL_law_468 : decode cL_law 468 = .ok (.aload_n 0, 1) := by decide +kernel
theorem dL_law_469 : decode cL_law 469 = .ok (.iload_n 3, 1) := by decide +kernel
theorem dL_law_470 : decode cL_law 470 = .ok (.iconst 2, 1) := by decide +kernel
theorem dL_law_471 : decode cL_law 471 = .ok (.iadd, 1) := by decide +kernel
theorem dL_law_472 : decode cL_law 472 = .ok (.iaload, 1) := by decide +kernel
theorem dL_law_473 : decode cL_law 473 = .ok (.aload_n 0, 1) := by decide +kernel
theorem dL_law_474 : decode cL_law 474 = .ok (.iload_n 3, 1) := by decide +kernel
theorem dL_law_475 : decode cL_law 475 = .ok (.iconst 3, 1) := by decide +kernel
theorem dL_law_476 : decode cL_law 476 = .ok (.iadd, 1) := by decide +kernel
theorem dL_law_477 : decode cL_law 477 = .ok (.iaload, 1) := by decide +kernel
theorem dL_law_478 : decode cL_law 478 = .ok (.aload_n 0, 1) := by decide +kernel
theorem dL_law_479 : decode cL_law 479 = .ok (.iload_n 3, 1) := by decide +kernel
theorem dL_law_480 : decode cL_law 480 = .ok (.iconst 4, 1) := by decide +kernel
theorem dL_law_481 : decode cL_law 481 = .ok (.iadd, 1) := by decide +kernel
theorem dL_law_482 : decode cL_law 482 = .ok (.iaload, 1) := by decide +kernel
theorem dL_law_483 : decode cL_law 483 = .ok (.aload_n 0, 1) := by decide +kernel
theorem dL_law_484 : decode cL_law 484 = .ok (.iload_n 3, 1) := by decide +kernel
theorem dL_law_485 : decode cL_law 485 = .ok (.iconst 5, 1) := by decide +kernel
theorem dL_law_486 : decode cL_law 486 = .ok (.iadd, 1) := by decide +kernel
theorem dL_law_487 : decode cL_law 487 = .ok (.iaload, 1) := by decide +kernel
theorem dL_law_488 : decode cL_law 488 = .ok (.invokevirtual 40, 3) := by decide +kernel
theorem dL_law_491 : decode cL_law 491 = .ok (.if_icmp .eq 1272, 3) := by decide +kernel
theorem dL_law_494 : decode cL_law 494 = .ok (.iconst 0, 1) := by decide +kernel
theorem dL_law_495 : decode cL_law 495 = .ok (.ireturn, 1) := by decide +kernel
theorem dL_law_496 : decode cL_law 496 = .ok (.aload_n 1, 1) := by decide +kernel
theorem dL_law_497 : decode cL_law 497 = .ok (.aload_n 0, 1) := by decide +kernel
theorem dL_law_498 : decode cL_law 498 = .ok (.iload_n 3, 1) := by decide +kernel
theorem dL_law_499 : decode cL_law 499 = .ok (.iconst 1, 1) := by decide +kernel
theorem dL_law_500 : decode cL_law 500 = .ok (.iadd, 1) := by decide +kernel
theorem dL_law_501 : decode cL_law 501 = .ok (.iaload, 1) := by decide +kernel
theorem dL_law_502 : decode cL_law 502 = .ok (.aload_n 0, 1) := by decide +kernel
theorem dL_law_503 : decode cL_law 503 = .ok (.iload_n 3, 1) := by decide +kernel
theorem dL_law_504 : decode cL_law 504 = .ok (.iconst 2, 1) := by decide +kernel
theorem dL_law_505 : decode cL_law 505 = .ok (.iadd, 1) := by decide +kernel
theorem dL_law_506 : decode cL_law 506 = .ok (.iaload, 1) := by decide +kernel
theorem dL_law_507 : decode cL_law 507 = .ok (.aload_n 0, 1) := by decide +kernel
theorem dL_law_508 : decode cL_law 508 = .ok (.iload_n 3, 1) := by decide +kernel
theorem dL_law_509 : decode cL_law 509 = .ok (.iconst 3, 1) := by decide +kernel
theorem dL_law_510 : decode cL_law 510 = .ok (.iadd, 1) := by decide +kernel
theorem dL_law_511 : decode cL_law 511 = .ok (.iaload, 1) := by decide +kernel
theorem dL_law_512 : decode cL_law 512 = .ok (.invokevirtual 41, 3) := by decide +kernel
theorem dL_law_515 : decode cL_law 515 = .ok (.aload_n 2, 1) := by decide +kernel
theorem dL_law_516 : decode cL_law 516 = .ok (.aload_n 0, 1) := by decide +kernel
theorem dL_law_517 : decode cL_law 517 = .ok (.iload_n 3, 1) := by decide +kernel
theorem dL_law_518 : decode cL_law 518 = .ok (.iconst 1, 1) := by decide +kernel
theorem dL_law_519 : decode cL_law 519 = .ok (.iadd, 1) := by decide +kernel
theorem dL_law_520 : decode cL_law 520 = .ok (.iaload, 1) := by decide +kernel
theorem dL_law_521 : decode cL_law 521 = .ok (.aload_n 0, 1) := by decide +kernel
theorem dL_law_522 : decode cL_law 522 = .ok (.iload_n 3, 1) := by decide +kernel
theorem dL_law_523 : decode cL_law 523 = .ok (.iconst 2, 1) := by decide +kernel
theorem dL_law_524 : decode cL_law 524 = .ok (.iadd, 1) := by decide +kernel
theorem dL_law_525 : decode cL_law 525 = .ok (.iaload, 1) := by decide +kernel
theorem dL_law_526 : decode cL_law 526 = .ok (.aload_n 0, 1) := by decide +kernel
theorem dL_law_527 : decode cL_law 527 = .ok (.iload_n 3, 1) := by decide +kernel
theorem dL_law_528 : decode cL_law 528 = .ok (.iconst 3, 1) := by decide +kernel
theorem dL_law_529 : decode cL_law 529 = .ok (.iadd, 1) := by decide +kernel
theorem dL_law_530 : decode cL_law 530 = .ok (.iaload, 1) := by decide +kernel
theorem dL_law_531 : decode cL_law 531 = .ok (.invokevirtual 44, 3) := by decide +kernel
theorem dL_law_534 : decode cL_law 534 = .ok (.if_icmp .eq 1229, 3) := by decide +kernel
theorem dL_law_537 : decode cL_law 537 = .ok (.iconst 0, 1) := by decide +kernel
theorem dL_law_538 : decode cL_law 538 = .ok (.ireturn, 1) := by decide +kernel
theorem dL_law_539 : decode cL_law 539 = .ok (.aload_n 1, 1) := by decide +kernel
theorem dL_law_540 : decode cL_law 540 = .ok (.aload_n 0, 1) := by decide +kernel
theorem dL_law_541 : decode cL_law 541 = .ok (.iload_n 3, 1) := by decide +kernel
theorem dL_law_542 : decode cL_law 542 = .ok (.iconst 1, 1) := by decide +kernel
theorem dL_law_543 : decode cL_law 543 = .ok (.iadd, 1) := by decide +kernel
theorem dL_law_544 : decode cL_law 544 = .ok (.iaload, 1) := by decide +kernel
theorem dL_law_545 : decode cL_law 545 = .ok (.invokevirtual 45, 3) := by decide +kernel
theorem dL_law_548 : decode cL_law 548 = .ok (.aload_n 2, 1) := by decide +kernel
theorem dL_law_549 : decode cL_law 549 = .ok (.aload_n 0, 1) := by decide +kernel
theorem dL_law_550 : decode cL_law 550 = .ok (.iload_n 3, 1) := by decide +kernel
theorem dL_law_551 : decode cL_law 551 = .ok (.iconst 1, 1) := by decide +kernel
theorem dL_law_552 : decode cL_law 552 = .ok (.iadd, 1) := by decide +kernel
theorem dL_law_553 : decode cL_law 553 = .ok (.iaload, 1) := by decide +kernel
theorem dL_law_554 : decode cL_law 554 = .ok (.invokevirtual 49, 3) := by decide +kernel
theorem dL_law_557 : decode cL_law 557 = .ok (.if_icmp .eq 1206, 3) := by decide +kernel
theorem dL_law_560 : decode cL_law 560 = .ok (.iconst 0, 1) := by decide +kernel
theorem dL_law_561 : decode cL_law 561 = .ok (.ireturn, 1) := by decide +kernel
theorem dL_law_562 : decode cL_law 562 = .ok (.aload_n 1, 1) := by decide +kernel
theorem dL_law_563 : decode cL_law 563 = .ok (.aload_n 0, 1) := by decide +kernel
theorem dL_law_564 : decode cL_law 564 = .ok (.iload_n 3, 1) := by decide +kernel
theorem dL_law_565 : decode cL_law 565 = .ok (.iconst 1, 1) := by decide +kernel
theorem dL_law_566 : decode cL_law 566 = .ok (.iadd, 1) := by decide +kernel
theorem dL_law_567 : decode cL_law 567 = .ok (.iaload, 1) := by decide +kernel
theorem dL_law_568 : decode cL_law 568 = .ok (.aload_n 0, 1) := by decide +kernel
theorem dL_law_569 : decode cL_law 569 = .ok (.iload_n 3, 1) := by decide +kernel
theorem dL_law_570 : decode cL_law 570 = .ok (.iconst 2, 1) := by decide +kernel
theorem dL_law_571 : decode cL_law 571 = .ok (.iadd, 1) := by decide +kernel
theorem dL_law_572 : decode cL_law 572 = .ok (.iaload, 1) := by decide +kernel
theorem dL_law_573 : decode cL_law 573 = .ok (.aload_n 0, 1) := by decide +kernel
theorem dL_law_574 : decode cL_law 574 = .ok (.iload_n 3, 1) := by decide +kernel
theorem dL_law_575 : decode cL_law 575 = .ok (.iconst 3, 1) := by decide +kernel
theorem dL_law_576 : decode cL_law 576 = .ok (.iadd, 1) := by decide +kernel
theorem dL_law_577 : decode cL_law 577 = .ok (.iaload, 1) := by decide +kernel
theorem dL_law_578 : decode cL_law 578 = .ok (.invokevirtual 50, 3) := by decide +kernel
theorem dL_law_581 : decode cL_law 581 = .ok (.aload_n 2, 1) := by decide +kernel
theorem dL_law_582 : decode cL_law 582 = .ok (.aload_n 0, 1) := by decide +kernel
theorem dL_law_583 : decode cL_law 583 = .ok (.iload_n 3, 1) := by decide +kernel
theorem dL_law_584 : decode cL_law 584 = .ok (.iconst 1, 1) := by decide +kernel
theorem dL_law_585 : decode cL_law 585 = .ok (.iadd, 1) := by decide +kernel
theorem dL_law_586 : decode cL_law 586 = .ok (.iaload, 1) := by decide +kernel
theorem dL_law_587 : decode cL_law 587 = .ok (.aload_n 0, 1) := by decide +kernel
theorem dL_law_588 : decode cL_law 588 = .ok (.iload_n 3, 1) := by decide +kernel
theorem dL_law_589 : decode cL_law 589 = .ok (.iconst 2, 1) := by decide +kernel
theorem dL_law_590 : decode cL_law 590 = .ok (.iadd, 1) := by decide +kernel
theorem dL_law_591 : decode cL_law 591 = .ok (.iaload, 1) := by decide +kernel
theorem dL_law_592 : decode cL_law 592 = .ok (.aload_n 0, 1) := by decide +kernel
theorem dL_law_593 : decode cL_law 593 = .ok (.iload_n 3, 1) := by decide +kernel
theorem dL_law_594 : decode cL_law 594 = .ok (.iconst 3, 1) := by decide +kernel
theorem dL_law_595 : decode cL_law 595 = .ok (.iadd, 1) := by decide +kernel
theorem dL_law_596 : decode cL_law 596 = .ok (.iaload, 1) := by decide +kernel
theorem dL_law_597 : decode cL_law 597 = .ok (.invokevirtual 53, 3) := by decide +kernel
theorem dL_law_600 : decode cL_law 600 = .ok (.if_icmp .eq 1163, 3) := by decide +kernel
theorem dL_law_603 : decode cL_law 603 = .ok (.iconst 0, 1) := by decide +kernel
theorem dL_law_604 : decode cL_law 604 = .ok (.ireturn, 1) := by decide +kernel
theorem dL_law_605 : decode cL_law 605 = .ok (.aload_n 1, 1) := by decide +kernel
theorem dL_law_606 : decode cL_law 606 = .ok (.aload_n 0, 1) := by decide +kernel
theorem dL_law_607 : decode cL_law 607 = .ok (.iload_n 3, 1) := by decide +kernel
theorem dL_law_608 : decode cL_law 608 = .ok (.iconst 1, 1) := by decide +kernel
theorem dL_law_609 : decode cL_law 609 = .ok (.iadd, 1) := by decide +kernel
theorem dL_law_610 : decode cL_law 610 = .ok (.iaload, 1) := by decide +kernel
theorem dL_law_611 : decode cL_law 611 = .ok (.aload_n 0, 1) := by decide +kernel
theorem dL_law_612 : decode cL_law 612 = .ok (.iload_n 3, 1) := by decide +kernel
theorem dL_law_613 : decode cL_law 613 = .ok (.iconst 2, 1) := by decide +kernel
theorem dL_law_614 : decode cL_law 614 = .ok (.iadd, 1) := by decide +kernel
theorem dL_law_615 : decode cL_law 615 = .ok (.iaload, 1) := by decide +kernel
theorem dL_law_616 : decode cL_law 616 = .ok (.invokevirtual 54, 3) := by decide +kernel
theorem dL_law_619 : decode cL_law 619 = .ok (.aload_n 2, 1) := by decide +kernel
theorem dL_law_620 : decode cL_law 620 = .ok (.aload_n 0, 1) := by decide +kernel
theorem dL_law_621 : decode cL_law 621 = .ok (.iload_n 3, 1) := by decide +kernel
theorem dL_law_622 : decode cL_law 622 = .ok (.iconst 1, 1) := by decide +kernel
theorem dL_law_623 : decode cL_law 623 = .ok (.iadd, 1) := by decide +kernel
theorem dL_law_624 : decode cL_law 624 = .ok (.iaload, 1) := by decide +kernel
theorem dL_law_625 : decode cL_law 625 = .ok (.aload_n 0, 1) := by decide +kernel
theorem dL_law_626 : decode cL_law 626 = .ok (.iload_n 3, 1) := by decide +kernel
theorem dL_law_627 : decode cL_law 627 = .ok (.iconst 2, 1) := by decide +kernel
theorem dL_law_628 : decode cL_law 628 = .ok (.iadd, 1) := by decide +kernel
theorem dL_law_629 : decode cL_law 629 = .ok (.iaload, 1) := by decide +kernel
theorem dL_law_630 : decode cL_law 630 = .ok (.invokevirtual 57, 3) := by decide +kernel
theorem dL_law_633 : decode cL_law 633 = .ok (.if_icmp .eq 1130, 3) := by decide +kernel
theorem dL_law_636 : decode cL_law 636 = .ok (.iconst 0, 1) := by decide +kernel
theorem dL_law_637 : decode cL_law 637 = .ok (.ireturn, 1) := by decide +kernel
theorem dL_law_638 : decode cL_law 638 = .ok (.aload_n 1, 1) := by decide +kernel
theorem dL_law_639 : decode cL_law 639 = .ok (.aload_n 0, 1) := by decide +kernel
theorem dL_law_640 : decode cL_law 640 = .ok (.iload_n 3, 1) := by decide +kernel
theorem dL_law_641 : decode cL_law 641 = .ok (.iconst 1, 1) := by decide +kernel
theorem dL_law_642 : decode cL_law 642 = .ok (.iadd, 1) := by decide +kernel
theorem dL_law_643 : decode cL_law 643 = .ok (.iaload, 1) := by decide +kernel
theorem dL_law_644 : decode cL_law 644 = .ok (.aload_n 0, 1) := by decide +kernel
theorem dL_law_645 : decode cL_law 645 = .ok (.iload_n 3, 1) := by decide +kernel
theorem dL_law_646 : decode cL_law 646 = .ok (.iconst 2, 1) := by decide +kernel
theorem dL_law_647 : decode cL_law 647 = .ok (.iadd, 1) := by decide +kernel
theorem dL_law_648 : decode cL_law 648 = .ok (.iaload, 1) := by decide +kernel
theorem dL_law_649 : decode cL_law 649 = .ok (.invokevirtual 58, 3) := by decide +kernel
theorem dL_law_652 : decode cL_law 652 = .ok (.aload_n 2, 1) := by decide +kernel
theorem dL_law_653 : decode cL_law 653 = .ok (.aload_n 0, 1) := by decide +kernel
theorem dL_law_654 : decode cL_law 654 = .ok (.iload_n 3, 1) := by decide +kernel
theorem dL_law_655 : decode cL_law 655 = .ok (.iconst 1, 1) := by decide +kernel
theorem dL_law_656 : decode cL_law 656 = .ok (.iadd, 1) := by decide +kernel
theorem dL_law_657 : decode cL_law 657 = .ok (.iaload, 1) := by decide +kernel
theorem dL_law_658 : decode cL_law 658 = .ok (.aload_n 0, 1) := by decide +kernel
theorem dL_law_659 : decode cL_law 659 = .ok (.iload_n 3, 1) := by decide +kernel
theorem dL_law_660 : decode cL_law 660 = .ok (.iconst 2, 1) := by decide +kernel
theorem dL_law_661 : decode cL_law 661 = .ok (.iadd, 1) := by decide +kernel
theorem dL_law_662 : decode cL_law 662 = .ok (.iaload, 1) := by decide +kernel
theorem dL_law_663 : decode cL_law 663 = .ok (.invokevirtual 61, 3) := by decide +kernel
theorem dL_law_666 : decode cL_law 666 = .ok (.if_icmp .eq 1097, 3) := by decide +kernel
theorem dL_law_669 : decode cL_law 669 = .ok (.iconst 0, 1) := by decide +kernel
theorem dL_law_670 : decode cL_law 670 = .ok (.ireturn, 1) := by decide +kernel
theorem dL_law_671 : decode cL_law 671 = .ok (.aload_n 1, 1) := by decide +kernel
theorem dL_law_672 : decode cL_law 672 = .ok (.aload_n 0, 1) := by decide +kernel
theorem dL_law_673 : decode cL_law 673 = .ok (.iload_n 3, 1) := by decide +kernel
theorem dL_law_674 : decode cL_law 674 = .ok (.iconst 1, 1) := by decide +kernel
theorem dL_law_675 : decode cL_law 675 = .ok (.iadd, 1) := by decide +kernel
theorem dL_law_676 : decode cL_law 676 = .ok (.iaload, 1) := by decide +kernel
theorem dL_law_677 : decode cL_law 677 = .ok (.aload_n 0, 1) := by decide +kernel
theorem dL_law_678 : decode cL_law 678 = .ok (.iload_n 3, 1) := by decide +kernel
theorem dL_law_679 : decode cL_law 679 = .ok (.iconst 2, 1) := by decide +kernel
theorem dL_law_680 : decode cL_law 680 = .ok (.iadd, 1) := by decide +kernel
theorem dL_law_681 : decode cL_law 681 = .ok (.iaload, 1) := by decide +kernel
theorem dL_law_682 : decode cL_law 682 = .ok (.aload_n 0, 1) := by decide +kernel
theorem dL_law_683 : decode cL_law 683 = .ok (.iload_n 3, 1) := by decide +kernel
theorem dL_law_684 : decode cL_law 684 = .ok (.iconst 3, 1) := by decide +kernel
theorem dL_law_685 : decode cL_law 685 = .ok (.iadd, 1) := by decide +kernel
theorem dL_law_686 : decode cL_law 686 = .ok (.iaload, 1) := by decide +kernel
theorem dL_law_687 : decode cL_law 687 = .ok (.invokevirtual 62, 3) := by decide +kernel
theorem dL_law_690 : decode cL_law 690 = .ok (.aload_n 2, 1) := by decide +kernel
theorem dL_law_691 : decode cL_law 691 = .ok (.aload_n 0, 1) := by decide +kernel
theorem dL_law_692 : decode cL_law 692 = .ok (.iload_n 3, 1) := by decide +kernel
theorem dL_law_693 : decode cL_law 693 = .ok (.iconst 1, 1) := by decide +kernel
theorem dL_law_694 : decode cL_law 694 = .ok (.iadd, 1) := by decide +kernel
theorem dL_law_695 : decode cL_law 695 = .ok (.iaload, 1) := by decide +kernel
theorem dL_law_696 : decode cL_law 696 = .ok (.aload_n 0, 1) := by decide +kernel
theorem dL_law_697 : decode cL_law 697 = .ok (.iload_n 3, 1) := by decide +kernel
theorem dL_law_698 : decode cL_law 698 = .ok (.iconst 2, 1) := by decide +kernel
theorem dL_law_699 : decode cL_law 699 = .ok (.iadd, 1) := by decide +kernel
theorem dL_law_700 : decode cL_law 700 = .ok (.iaload, 1) := by decide +kernel
theorem dL_law_701 : decode cL_law 701 = .ok (.aload_n 0, 1) := by decide +kernel
theorem dL_law_702 : decode cL_law 702 = .ok (.iload_n 3, 1) := by decide +kernel
theorem dL_law_703 : decode cL_law 703 = .ok (.iconst 3, 1) := by decide +kernel
theorem dL_law_704 : decode cL_law 704 = .ok (.iadd, 1) := by decide +kernel
theorem dL_law_705 : decode cL_law 705 = .ok (.iaload, 1) := by decide +kernel
theorem dL_law_706 : decode cL_law 706 = .ok (.invokevirtual 65, 3) := by decide +kernel
theorem dL_law_709 : decode cL_law 709 = .ok (.if_icmp .eq 1054, 3) := by decide +kernel
theorem dL_law_712 : decode cL_law 712 = .ok (.iconst 0, 1) := by decide +kernel
theorem dL_law_713 : decode cL_law 713 = .ok (.ireturn, 1) := by decide +kernel
theorem dL_law_714 : decode cL_law 714 = .ok (.aload_n 1, 1) := by decide +kernel
theorem dL_law_715 : decode cL_law 715 = .ok (.aload_n 0, 1) := by decide +kernel
theorem dL_law_716 : decode cL_law 716 = .ok (.iload_n 3, 1) := by decide +kernel
theorem dL_law_717 : decode cL_law 717 = .ok (.iconst 1, 1) := by decide +kernel
theorem dL_law_718 : decode cL_law 718 = .ok (.iadd, 1) := by decide +kernel
theorem dL_law_719 : decode cL_law 719 = .ok (.iaload, 1) := by decide +kernel
theorem dL_law_720 : decode cL_law 720 = .ok (.aload_n 0, 1) := by decide +kernel
theorem dL_law_721 : decode cL_law 721 = .ok (.iload_n 3, 1) := by decide +kernel
theorem dL_law_722 : decode cL_law 722 = .ok (.iconst 2, 1) := by decide +kernel
theorem dL_law_723 : decode cL_law 723 = .ok (.iadd, 1) := by decide +kernel
theorem dL_law_724 : decode cL_law 724 = .ok (.iaload, 1) := by decide +kernel
theorem dL_law_725 : decode cL_law 725 = .ok (.i2l, 1) := by decide +kernel
theorem dL_law_726 : decode cL_law 726 = .ok (.bipush 32, 2) := by decide +kernel
theorem dL_law_728 : decode cL_law 728 = .ok (.lshl, 1) := by decide +kernel
theorem dL_law_729 : decode cL_law 729 = .ok (.aload_n 0, 1) := by decide +kernel
theorem dL_law_730 : decode cL_law 730 = .ok (.iload_n 3, 1) := by decide +kernel
theorem dL_law_731 : decode cL_law 731 = .ok (.iconst 3, 1) := by decide +kernel
theorem dL_law_732 : decode cL_law 732 = .ok (.iadd, 1) := by decide +kernel
theorem dL_law_733 : decode cL_law 733 = .ok (.iaload, 1) := by decide +kernel
theorem dL_law_734 : decode cL_law 734 = .ok (.i2l, 1) := by decide +kernel
theorem dL_law_735 : decode cL_law 735 = .ok (.ldc2_w 66, 3) := by decide +kernel
theorem dL_law_738 : decode cL_law 738 = .ok (.land, 1) := by decide +kernel
theorem dL_law_739 : decode cL_law 739 = .ok (.lor, 1) := by decide +kernel
theorem dL_law_740 : decode cL_law 740 = .ok (.invokevirtual 68, 3) := by decide +kernel
theorem dL_law_743 : decode cL_law 743 = .ok (.aload_n 2, 1) := by decide +kernel
theorem dL_law_744 : decode cL_law 744 = .ok (.aload_n 0, 1) := by decide +kernel
theorem dL_law_745 : decode cL_law 745 = .ok (.iload_n 3, 1) := by decide +kernel
theorem dL_law_746 : decode cL_law 746 = .ok (.iconst 1, 1) := by decide +kernel
theorem dL_law_747 : decode cL_law 747 = .ok (.iadd, 1) := by decide +kernel
theorem dL_law_748 : decode cL_law 748 = .ok (.iaload, 1) := by decide +kernel
theorem dL_law_749 : decode cL_law 749 = .ok (.aload_n 0, 1) := by decide +kernel
theorem dL_law_750 : decode cL_law 750 = .ok (.iload_n 3, 1) := by decide +kernel
theorem dL_law_751 : decode cL_law 751 = .ok (.iconst 2, 1) := by decide +kernel
theorem dL_law_752 : decode cL_law 752 = .ok (.iadd, 1) := by decide +kernel
theorem dL_law_753 : decode cL_law 753 = .ok (.iaload, 1) := by decide +kernel
theorem dL_law_754 : decode cL_law 754 = .ok (.i2l, 1) := by decide +kernel
theorem dL_law_755 : decode cL_law 755 = .ok (.bipush 32, 2) := by decide +kernel
theorem dL_law_757 : decode cL_law 757 = .ok (.lshl, 1) := by decide +kernel
theorem dL_law_758 : decode cL_law 758 = .ok (.aload_n 0, 1) := by decide +kernel
theorem dL_law_759 : decode cL_law 759 = .ok (.iload_n 3, 1) := by decide +kernel
theorem dL_law_760 : decode cL_law 760 = .ok (.iconst 3, 1) := by decide +kernel
theorem dL_law_761 : decode cL_law 761 = .ok (.iadd, 1) := by decide +kernel
theorem dL_law_762 : decode cL_law 762 = .ok (.iaload, 1) := by decide +kernel
theorem dL_law_763 : decode cL_law 763 = .ok (.i2l, 1) := by decide +kernel
theorem dL_law_764 : decode cL_law 764 = .ok (.ldc2_w 66, 3) := by decide +kernel
theorem dL_law_767 : decode cL_law 767 = .ok (.land, 1) := by decide +kernel
theorem dL_law_768 : decode cL_law 768 = .ok (.lor, 1) := by decide +kernel
theorem dL_law_769 : decode cL_law 769 = .ok (.invokevirtual 72, 3) := by decide +kernel
theorem dL_law_772 : decode cL_law 772 = .ok (.if_icmp .eq 991, 3) := by decide +kernel
theorem dL_law_775 : decode cL_law 775 = .ok (.iconst 0, 1) := by decide +kernel
theorem dL_law_776 : decode cL_law 776 = .ok (.ireturn, 1) := by decide +kernel
theorem dL_law_777 : decode cL_law 777 = .ok (.aload_n 1, 1) := by decide +kernel
theorem dL_law_778 : decode cL_law 778 = .ok (.invokevirtual 73, 3) := by decide +kernel
theorem dL_law_781 : decode cL_law 781 = .ok (.aload_n 2, 1) := by decide +kernel
theorem dL_law_782 : decode cL_law 782 = .ok (.invokevirtual 77, 3) := by decide +kernel
theorem dL_law_785 : decode cL_law 785 = .ok (.if_icmp .eq 978, 3) := by decide +kernel
theorem dL_law_788 : decode cL_law 788 = .ok (.iconst 0, 1) := by decide +kernel
theorem dL_law_789 : decode cL_law 789 = .ok (.ireturn, 1) := by decide +kernel
theorem dL_law_790 : decode cL_law 790 = .ok (.aload_n 1, 1) := by decide +kernel
theorem dL_law_791 : decode cL_law 791 = .ok (.aload_n 0, 1) := by decide +kernel
theorem dL_law_792 : decode cL_law 792 = .ok (.iload_n 3, 1) := by decide +kernel
theorem dL_law_793 : decode cL_law 793 = .ok (.iconst 1, 1) := by decide +kernel
theorem dL_law_794 : decode cL_law 794 = .ok (.iadd, 1) := by decide +kernel
theorem dL_law_795 : decode cL_law 795 = .ok (.iaload, 1) := by decide +kernel
theorem dL_law_796 : decode cL_law 796 = .ok (.invokevirtual 78, 3) := by decide +kernel
theorem dL_law_799 : decode cL_law 799 = .ok (.aload_n 2, 1) := by decide +kernel
theorem dL_law_800 : decode cL_law 800 = .ok (.aload_n 0, 1) := by decide +kernel
theorem dL_law_801 : decode cL_law 801 = .ok (.iload_n 3, 1) := by decide +kernel
theorem dL_law_802 : decode cL_law 802 = .ok (.iconst 1, 1) := by decide +kernel
theorem dL_law_803 : decode cL_law 803 = .ok (.iadd, 1) := by decide +kernel
theorem dL_law_804 : decode cL_law 804 = .ok (.iaload, 1) := by decide +kernel
theorem dL_law_805 : decode cL_law 805 = .ok (.invokevirtual 81, 3) := by decide +kernel
theorem dL_law_808 : decode cL_law 808 = .ok (.if_icmp .eq 955, 3) := by decide +kernel
theorem dL_law_811 : decode cL_law 811 = .ok (.iconst 0, 1) := by decide +kernel
theorem dL_law_812 : decode cL_law 812 = .ok (.ireturn, 1) := by decide +kernel
theorem dL_law_813 : decode cL_law 813 = .ok (.aload_n 1, 1) := by decide +kernel
theorem dL_law_814 : decode cL_law 814 = .ok (.aload_n 0, 1) := by decide +kernel
theorem dL_law_815 : decode cL_law 815 = .ok (.iload_n 3, 1) := by decide +kernel
theorem dL_law_816 : decode cL_law 816 = .ok (.iconst 1, 1) := by decide +kernel
theorem dL_law_817 : decode cL_law 817 = .ok (.iadd, 1) := by decide +kernel
theorem dL_law_818 : decode cL_law 818 = .ok (.iaload, 1) := by decide +kernel
theorem dL_law_819 : decode cL_law 819 = .ok (.aload_n 0, 1) := by decide +kernel
theorem dL_law_820 : decode cL_law 820 = .ok (.iload_n 3, 1) := by decide +kernel
theorem dL_law_821 : decode cL_law 821 = .ok (.iconst 2, 1) := by decide +kernel
theorem dL_law_822 : decode cL_law 822 = .ok (.iadd, 1) := by decide +kernel
theorem dL_law_823 : decode cL_law 823 = .ok (.iaload, 1) := by decide +kernel
theorem dL_law_824 : decode cL_law 824 = .ok (.ifCond .eq 7, 3) := by decide +kernel
theorem dL_law_827 : decode cL_law 827 = .ok (.iconst 1, 1) := by decide +kernel
theorem dL_law_828 : decode cL_law 828 = .ok (.goto 4, 3) := by decide +kernel
theorem dL_law_831 : decode cL_law 831 = .ok (.iconst 0, 1) := by decide +kernel
theorem dL_law_832 : decode cL_law 832 = .ok (.invokevirtual 82, 3) := by decide +kernel
theorem dL_law_835 : decode cL_law 835 = .ok (.aload_n 2, 1) := by decide +kernel
theorem dL_law_836 : decode cL_law 836 = .ok (.aload_n 0, 1) := by decide +kernel
theorem dL_law_837 : decode cL_law 837 = .ok (.iload_n 3, 1) := by decide +kernel
theorem dL_law_838 : decode cL_law 838 = .ok (.iconst 1, 1) := by decide +kernel
theorem dL_law_839 : decode cL_law 839 = .ok (.iadd, 1) := by decide +kernel
theorem dL_law_840 : decode cL_law 840 = .ok (.iaload, 1) := by decide +kernel
theorem dL_law_841 : decode cL_law 841 = .ok (.aload_n 0, 1) := by decide +kernel
theorem dL_law_842 : decode cL_law 842 = .ok (.iload_n 3, 1) := by decide +kernel
theorem dL_law_843 : decode cL_law 843 = .ok (.iconst 2, 1) := by decide +kernel
theorem dL_law_844 : decode cL_law 844 = .ok (.iadd, 1) := by decide +kernel
theorem dL_law_845 : decode cL_law 845 = .ok (.iaload, 1) := by decide +kernel
theorem dL_law_846 : decode cL_law 846 = .ok (.ifCond .eq 7, 3) := by decide +kernel
theorem dL_law_849 : decode cL_law 849 = .ok (.iconst 1, 1) := by decide +kernel
theorem dL_law_850 : decode cL_law 850 = .ok (.goto 4, 3) := by decide +kernel
theorem dL_law_853 : decode cL_law 853 = .ok (.iconst 0, 1) := by decide +kernel
theorem dL_law_854 : decode cL_law 854 = .ok (.invokevirtual 86, 3) := by decide +kernel
theorem dL_law_857 : decode cL_law 857 = .ok (.if_icmp .eq 906, 3) := by decide +kernel
theorem dL_law_860 : decode cL_law 860 = .ok (.iconst 0, 1) := by decide +kernel
theorem dL_law_861 : decode cL_law 861 = .ok (.ireturn, 1) := by decide +kernel
theorem dL_law_862 : decode cL_law 862 = .ok (.aload_n 1, 1) := by decide +kernel
theorem dL_law_863 : decode cL_law 863 = .ok (.aload_n 0, 1) := by decide +kernel
theorem dL_law_864 : decode cL_law 864 = .ok (.iload_n 3, 1) := by decide +kernel
theorem dL_law_865 : decode cL_law 865 = .ok (.iconst 1, 1) := by decide +kernel
theorem dL_law_866 : decode cL_law 866 = .ok (.iadd, 1) := by decide +kernel
theorem dL_law_867 : decode cL_law 867 = .ok (.iaload, 1) := by decide +kernel
theorem dL_law_868 : decode cL_law 868 = .ok (.aload_n 0, 1) := by decide +kernel
theorem dL_law_869 : decode cL_law 869 = .ok (.iload_n 3, 1) := by decide +kernel
theorem dL_law_870 : decode cL_law 870 = .ok (.iconst 2, 1) := by decide +kernel
theorem dL_law_871 : decode cL_law 871 = .ok (.iadd, 1) := by decide +kernel
theorem dL_law_872 : decode cL_law 872 = .ok (.iaload, 1) := by decide +kernel
theorem dL_law_873 : decode cL_law 873 = .ok (.ifCond .eq 7, 3) := by decide +kernel
theorem dL_law_876 : decode cL_law 876 = .ok (.iconst 1, 1) := by decide +kernel
theorem dL_law_877 : decode cL_law 877 = .ok (.goto 4, 3) := by decide +kernel
theorem dL_law_880 : decode cL_law 880 = .ok (.iconst 0, 1) := by decide +kernel
theorem dL_law_881 : decode cL_law 881 = .ok (.invokevirtual 87, 3) := by decide +kernel
theorem dL_law_884 : decode cL_law 884 = .ok (.aload_n 2, 1) := by decide +kernel
theorem dL_law_885 : decode cL_law 885 = .ok (.aload_n 0, 1) := by decide +kernel
theorem dL_law_886 : decode cL_law 886 = .ok (.iload_n 3, 1) := by decide +kernel
theorem dL_law_887 : decode cL_law 887 = .ok (.iconst 1, 1) := by decide +kernel
theorem dL_law_888 : decode cL_law 888 = .ok (.iadd, 1) := by decide +kernel
theorem dL_law_889 : decode cL_law 889 = .ok (.iaload, 1) := by decide +kernel
theorem dL_law_890 : decode cL_law 890 = .ok (.aload_n 0, 1) := by decide +kernel
theorem dL_law_891 : decode cL_law 891 = .ok (.iload_n 3, 1) := by decide +kernel
theorem dL_law_892 : decode cL_law 892 = .ok (.iconst 2, 1) := by decide +kernel
theorem dL_law_893 : decode cL_law 893 = .ok (.iadd, 1) := by decide +kernel
theorem dL_law_894 : decode cL_law 894 = .ok (.iaload, 1) := by decide +kernel
theorem dL_law_895 : decode cL_law 895 = .ok (.ifCond .eq 7, 3) := by decide +kernel
theorem dL_law_898 : decode cL_law 898 = .ok (.iconst 1, 1) := by decide +kernel
theorem dL_law_899 : decode cL_law 899 = .ok (.goto 4, 3) := by decide +kernel
theorem dL_law_902 : decode cL_law 902 = .ok (.iconst 0, 1) := by decide +kernel
theorem dL_law_903 : decode cL_law 903 = .ok (.invokevirtual 90, 3) := by decide +kernel
theorem dL_law_906 : decode cL_law 906 = .ok (.if_icmp .eq 857, 3) := by decide +kernel
theorem dL_law_909 : decode cL_law 909 = .ok (.iconst 0, 1) := by decide +kernel
theorem dL_law_910 : decode cL_law 910 = .ok (.ireturn, 1) := by decide +kernel
theorem dL_law_911 : decode cL_law 911 = .ok (.aload_n 1, 1) := by decide +kernel
theorem dL_law_912 : decode cL_law 912 = .ok (.aload_n 0, 1) := by decide +kernel
theorem dL_law_913 : decode cL_law 913 = .ok (.iload_n 3, 1) := by decide +kernel
theorem dL_law_914 : decode cL_law 914 = .ok (.iconst 1, 1) := by decide +kernel
theorem dL_law_915 : decode cL_law 915 = .ok (.iadd, 1) := by decide +kernel
theorem dL_law_916 : decode cL_law 916 = .ok (.iaload, 1) := by decide +kernel
theorem dL_law_917 : decode cL_law 917 = .ok (.aload_n 0, 1) := by decide +kernel
theorem dL_law_918 : decode cL_law 918 = .ok (.iload_n 3, 1) := by decide +kernel
theorem dL_law_919 : decode cL_law 919 = .ok (.iconst 2, 1) := by decide +kernel
theorem dL_law_920 : decode cL_law 920 = .ok (.iadd, 1) := by decide +kernel
theorem dL_law_921 : decode cL_law 921 = .ok (.iaload, 1) := by decide +kernel
theorem dL_law_922 : decode cL_law 922 = .ok (.ifCond .eq 7, 3) := by decide +kernel
theorem dL_law_925 : decode cL_law 925 = .ok (.iconst 1, 1) := by decide +kernel
theorem dL_law_926 : decode cL_law 926 = .ok (.goto 4, 3) := by decide +kernel
theorem dL_law_929 : decode cL_law 929 = .ok (.iconst 0, 1) := by decide +kernel
theorem dL_law_930 : decode cL_law 930 = .ok (.invokevirtual 91, 3) := by decide +kernel
theorem dL_law_933 : decode cL_law 933 = .ok (.aload_n 2, 1) := by decide +kernel
theorem dL_law_934 : decode cL_law 934 = .ok (.aload_n 0, 1) := by decide +kernel
theorem dL_law_935 : decode cL_law 935 = .ok (.iload_n 3, 1) := by decide +kernel
theorem dL_law_936 : decode cL_law 936 = .ok (.iconst 1, 1) := by decide +kernel
theorem dL_law_937 : decode cL_law 937 = .ok (.iadd, 1) := by decide +kernel
theorem dL_law_938 : decode cL_law 938 = .ok (.iaload, 1) := by decide +kernel
theorem dL_law_939 : decode cL_law 939 = .ok (.aload_n 0, 1) := by decide +kernel
theorem dL_law_940 : decode cL_law 940 = .ok (.iload_n 3, 1) := by decide +kernel
theorem dL_law_941 : decode cL_law 941 = .ok (.iconst 2, 1) := by decide +kernel
theorem dL_law_942 : decode cL_law 942 = .ok (.iadd, 1) := by decide +kernel
theorem dL_law_943 : decode cL_law 943 = .ok (.iaload, 1) := by decide +kernel
theorem dL_law_944 : decode cL_law 944 = .ok (.ifCond .eq 7, 3) := by decide +kernel
theorem dL_law_947 : decode cL_law 947 = .ok (.iconst 1, 1) := by decide +kernel
theorem dL_law_948 : decode cL_law 948 = .ok (.goto 4, 3) := by decide +kernel
theorem dL_law_951 : decode cL_law 951 = .ok (.iconst 0, 1) := by decide +kernel
theorem dL_law_952 : decode cL_law 952 = .ok (.invokevirtual 94, 3) := by decide +kernel
theorem dL_law_955 : decode cL_law 955 = .ok (.if_icmp .eq 808, 3) := by decide +kernel
theorem dL_law_958 : decode cL_law 958 = .ok (.iconst 0, 1) := by decide +kernel
theorem dL_law_959 : decode cL_law 959 = .ok (.ireturn, 1) := by decide +kernel
theorem dL_law_960 : decode cL_law 960 = .ok (.aload_n 1, 1) := by decide +kernel
theorem dL_law_961 : decode cL_law 961 = .ok (.aload_n 0, 1) := by decide +kernel
theorem dL_law_962 : decode cL_law 962 = .ok (.iload_n 3, 1) := by decide +kernel
theorem dL_law_963 : decode cL_law 963 = .ok (.iconst 1, 1) := by decide +kernel
theorem dL_law_964 : decode cL_law 964 = .ok (.iadd, 1) := by decide +kernel
theorem dL_law_965 : decode cL_law 965 = .ok (.iaload, 1) := by decide +kernel
theorem dL_law_966 : decode cL_law 966 = .ok (.invokevirtual 95, 3) := by decide +kernel
theorem dL_law_969 : decode cL_law 969 = .ok (.aload_n 2, 1) := by decide +kernel
theorem dL_law_970 : decode cL_law 970 = .ok (.aload_n 0, 1) := by decide +kernel
theorem dL_law_971 : decode cL_law 971 = .ok (.iload_n 3, 1) := by decide +kernel
theorem dL_law_972 : decode cL_law 972 = .ok (.iconst 1, 1) := by decide +kernel
theorem dL_law_973 : decode cL_law 973 = .ok (.iadd, 1) := by decide +kernel
theorem dL_law_974 : decode cL_law 974 = .ok (.iaload, 1) := by decide +kernel
theorem dL_law_975 : decode cL_law 975 = .ok (.invokevirtual 98, 3) := by decide +kernel
theorem dL_law_978 : decode cL_law 978 = .ok (.if_icmp .eq 785, 3) := by decide +kernel
theorem dL_law_981 : decode cL_law 981 = .ok (.iconst 0, 1) := by decide +kernel
theorem dL_law_982 : decode cL_law 982 = .ok (.ireturn, 1) := by decide +kernel
theorem dL_law_983 : decode cL_law 983 = .ok (.aload_n 1, 1) := by decide +kernel
theorem dL_law_984 : decode cL_law 984 = .ok (.invokevirtual 99, 3) := by decide +kernel
theorem dL_law_987 : decode cL_law 987 = .ok (.aload_n 2, 1) := by decide +kernel
theorem dL_law_988 : decode cL_law 988 = .ok (.invokevirtual 102, 3) := by decide +kernel
theorem dL_law_991 : decode cL_law 991 = .ok (.if_icmp .eq 772, 3) := by decide +kernel
theorem dL_law_994 : decode cL_law 994 = .ok (.iconst 0, 1) := by decide +kernel
theorem dL_law_995 : decode cL_law 995 = .ok (.ireturn, 1) := by decide +kernel
theorem dL_law_996 : decode cL_law 996 = .ok (.aload_n 1, 1) := by decide +kernel
theorem dL_law_997 : decode cL_law 997 = .ok (.invokevirtual 103, 3) := by decide +kernel
theorem dL_law_1000 : decode cL_law 1000 = .ok (.aload_n 2, 1) := by decide +kernel
theorem dL_law_1001 : decode cL_law 1001 = .ok (.invokevirtual 106, 3) := by decide +kernel
theorem dL_law_1004 : decode cL_law 1004 = .ok (.if_icmp .eq 759, 3) := by decide +kernel
theorem dL_law_1007 : decode cL_law 1007 = .ok (.iconst 0, 1) := by decide +kernel
theorem dL_law_1008 : decode cL_law 1008 = .ok (.ireturn, 1) := by decide +kernel
theorem dL_law_1009 : decode cL_law 1009 = .ok (.aload_n 1, 1) := by decide +kernel
theorem dL_law_1010 : decode cL_law 1010 = .ok (.aload_n 0, 1) := by decide +kernel
theorem dL_law_1011 : decode cL_law 1011 = .ok (.iload_n 3, 1) := by decide +kernel
theorem dL_law_1012 : decode cL_law 1012 = .ok (.iconst 1, 1) := by decide +kernel
theorem dL_law_1013 : decode cL_law 1013 = .ok (.iadd, 1) := by decide +kernel
theorem dL_law_1014 : decode cL_law 1014 = .ok (.iaload, 1) := by decide +kernel
theorem dL_law_1015 : decode cL_law 1015 = .ok (.aload_n 0, 1) := by decide +kernel
theorem dL_law_1016 : decode cL_law 1016 = .ok (.iload_n 3, 1) := by decide +kernel
theorem dL_law_1017 : decode cL_law 1017 = .ok (.iconst 2, 1) := by decide +kernel
theorem dL_law_1018 : decode cL_law 1018 = .ok (.iadd, 1) := by decide +kernel
theorem dL_law_1019 : decode cL_law 1019 = .ok (.iaload, 1) := by decide +kernel
theorem dL_law_1020 : decode cL_law 1020 = .ok (.invokevirtual 107, 3) := by decide +kernel
theorem dL_law_1023 : decode cL_law 1023 = .ok (.aload_n 2, 1) := by decide +kernel
theorem dL_law_1024 : decode cL_law 1024 = .ok (.aload_n 0, 1) := by decide +kernel
theorem dL_law_1025 : decode cL_law 1025 = .ok (.iload_n 3, 1) := by decide +kernel
theorem dL_law_1026 : decode cL_law 1026 = .ok (.iconst 1, 1) := by decide +kernel
theorem dL_law_1027 : decode cL_law 1027 = .ok (.iadd, 1) := by decide +kernel
theorem dL_law_1028 : decode cL_law 1028 = .ok (.iaload, 1) := by decide +kernel
theorem dL_law_1029 : decode cL_law 1029 = .ok (.aload_n 0, 1) := by decide +kernel
theorem dL_law_1030 : decode cL_law 1030 = .ok (.iload_n 3, 1) := by decide +kernel
theorem dL_law_1031 : decode cL_law 1031 = .ok (.iconst 2, 1) := by decide +kernel
theorem dL_law_1032 : decode cL_law 1032 = .ok (.iadd, 1) := by decide +kernel
theorem dL_law_1033 : decode cL_law 1033 = .ok (.iaload, 1) := by decide +kernel
theorem dL_law_1034 : decode cL_law 1034 = .ok (.invokevirtual 110, 3) := by decide +kernel
theorem dL_law_1037 : decode cL_law 1037 = .ok (.if_icmp .eq 726, 3) := by decide +kernel
theorem dL_law_1040 : decode cL_law 1040 = .ok (.iconst 0, 1) := by decide +kernel
theorem dL_law_1041 : decode cL_law 1041 = .ok (.ireturn, 1) := by decide +kernel
theorem dL_law_1042 : decode cL_law 1042 = .ok (.aload_n 1, 1) := by decide +kernel
theorem dL_law_1043 : decode cL_law 1043 = .ok (.aload_n 0, 1) := by decide +kernel
theorem dL_law_1044 : decode cL_law 1044 = .ok (.iload_n 3, 1) := by decide +kernel
theorem dL_law_1045 : decode cL_law 1045 = .ok (.iconst 1, 1) := by decide +kernel
theorem dL_law_1046 : decode cL_law 1046 = .ok (.iadd, 1) := by decide +kernel
theorem dL_law_1047 : decode cL_law 1047 = .ok (.iaload, 1) := by decide +kernel
theorem dL_law_1048 : decode cL_law 1048 = .ok (.aload_n 0, 1) := by decide +kernel
theorem dL_law_1049 : decode cL_law 1049 = .ok (.iload_n 3, 1) := by decide +kernel
theorem dL_law_1050 : decode cL_law 1050 = .ok (.iconst 2, 1) := by decide +kernel
theorem dL_law_1051 : decode cL_law 1051 = .ok (.iadd, 1) := by decide +kernel
theorem dL_law_1052 : decode cL_law 1052 = .ok (.iaload, 1) := by decide +kernel
theorem dL_law_1053 : decode cL_law 1053 = .ok (.aload_n 0, 1) := by decide +kernel
theorem dL_law_1054 : decode cL_law 1054 = .ok (.iload_n 3, 1) := by decide +kernel
theorem dL_law_1055 : decode cL_law 1055 = .ok (.iconst 3, 1) := by decide +kernel
theorem dL_law_1056 : decode cL_law 1056 = .ok (.iadd, 1) := by decide +kernel
theorem dL_law_1057 : decode cL_law 1057 = .ok (.iaload, 1) := by decide +kernel
theorem dL_law_1058 : decode cL_law 1058 = .ok (.invokevirtual 111, 3) := by decide +kernel
theorem dL_law_1061 : decode cL_law 1061 = .ok (.aload_n 2, 1) := by decide +kernel
theorem dL_law_1062 : decode cL_law 1062 = .ok (.aload_n 0, 1) := by decide +kernel
theorem dL_law_1063 : decode cL_law 1063 = .ok (.iload_n 3, 1) := by decide +kernel
theorem dL_law_1064 : decode cL_law 1064 = .ok (.iconst 1, 1) := by decide +kernel
theorem dL_law_1065 : decode cL_law 1065 = .ok (.iadd, 1) := by decide +kernel
theorem dL_law_1066 : decode cL_law 1066 = .ok (.iaload, 1) := by decide +kernel
theorem dL_law_1067 : decode cL_law 1067 = .ok (.aload_n 0, 1) := by decide +kernel
theorem dL_law_1068 : decode cL_law 1068 = .ok (.iload_n 3, 1) := by decide +kernel
theorem dL_law_1069 : decode cL_law 1069 = .ok (.iconst 2, 1) := by decide +kernel
theorem dL_law_1070 : decode cL_law 1070 = .ok (.iadd, 1) := by decide +kernel
theorem dL_law_1071 : decode cL_law 1071 = .ok (.iaload, 1) := by decide +kernel
theorem dL_law_1072 : decode cL_law 1072 = .ok (.aload_n 0, 1) := by decide +kernel
theorem dL_law_1073 : decode cL_law 1073 = .ok (.iload_n 3, 1) := by decide +kernel
theorem dL_law_1074 : decode cL_law 1074 = .ok (.iconst 3, 1) := by decide +kernel
theorem dL_law_1075 : decode cL_law 1075 = .ok (.iadd, 1) := by decide +kernel
theorem dL_law_1076 : decode cL_law 1076 = .ok (.iaload, 1) := by decide +kernel
theorem dL_law_1077 : decode cL_law 1077 = .ok (.invokevirtual 115, 3) := by decide +kernel
theorem dL_law_1080 : decode cL_law 1080 = .ok (.lcmp, 1) := by decide +kernel
theorem dL_law_1081 : decode cL_law 1081 = .ok (.ifCond .eq 682, 3) := by decide +kernel
theorem dL_law_1084 : decode cL_law 1084 = .ok (.iconst 0, 1) := by decide +kernel
theorem dL_law_1085 : decode cL_law 1085 = .ok (.ireturn, 1) := by decide +kernel
theorem dL_law_1086 : decode cL_law 1086 = .ok (.aload_n 1, 1) := by decide +kernel
theorem dL_law_1087 : decode cL_law 1087 = .ok (.aload_n 0, 1) := by decide +kernel
theorem dL_law_1088 : decode cL_law 1088 = .ok (.iload_n 3, 1) := by decide +kernel
theorem dL_law_1089 : decode cL_law 1089 = .ok (.iconst 1, 1) := by decide +kernel
theorem dL_law_1090 : decode cL_law 1090 = .ok (.iadd, 1) := by decide +kernel
theorem dL_law_1091 : decode cL_law 1091 = .ok (.iaload, 1) := by decide +kernel
theorem dL_law_1092 : decode cL_law 1092 = .ok (.aload_n 0, 1) := by decide +kernel
theorem dL_law_1093 : decode cL_law 1093 = .ok (.iload_n 3, 1) := by decide +kernel
theorem dL_law_1094 : decode cL_law 1094 = .ok (.iconst 2, 1) := by decide +kernel
theorem dL_law_1095 : decode cL_law 1095 = .ok (.iadd, 1) := by decide +kernel
theorem dL_law_1096 : decode cL_law 1096 = .ok (.iaload, 1) := by decide +kernel
theorem dL_law_1097 : decode cL_law 1097 = .ok (.aload_n 0, 1) := by decide +kernel
theorem dL_law_1098 : decode cL_law 1098 = .ok (.iload_n 3, 1) := by decide +kernel
theorem dL_law_1099 : decode cL_law 1099 = .ok (.iconst 3, 1) := by decide +kernel
theorem dL_law_1100 : decode cL_law 1100 = .ok (.iadd, 1) := by decide +kernel
theorem dL_law_1101 : decode cL_law 1101 = .ok (.iaload, 1) := by decide +kernel
theorem dL_law_1102 : decode cL_law 1102 = .ok (.ifCond .eq 7, 3) := by decide +kernel
theorem dL_law_1105 : decode cL_law 1105 = .ok (.iconst 1, 1) := by decide +kernel
theorem dL_law_1106 : decode cL_law 1106 = .ok (.goto 4, 3) := by decide +kernel
theorem dL_law_1109 : decode cL_law 1109 = .ok (.iconst 0, 1) := by decide +kernel
theorem dL_law_1110 : decode cL_law 1110 = .ok (.invokevirtual 116, 3) := by decide +kernel
theorem dL_law_1113 : decode cL_law 1113 = .ok (.aload_n 2, 1) := by decide +kernel
theorem dL_law_1114 : decode cL_law 1114 = .ok (.aload_n 0, 1) := by decide +kernel
theorem dL_law_1115 : decode cL_law 1115 = .ok (.iload_n 3, 1) := by decide +kernel
theorem dL_law_1116 : decode cL_law 1116 = .ok (.iconst 1, 1) := by decide +kernel
theorem dL_law_1117 : decode cL_law 1117 = .ok (.iadd, 1) := by decide +kernel
theorem dL_law_1118 : decode cL_law 1118 = .ok (.iaload, 1) := by decide +kernel
theorem dL_law_1119 : decode cL_law 1119 = .ok (.aload_n 0, 1) := by decide +kernel
theorem dL_law_1120 : decode cL_law 1120 = .ok (.iload_n 3, 1) := by decide +kernel
theorem dL_law_1121 : decode cL_law 1121 = .ok (.iconst 2, 1) := by decide +kernel
theorem dL_law_1122 : decode cL_law 1122 = .ok (.iadd, 1) := by decide +kernel
theorem dL_law_1123 : decode cL_law 1123 = .ok (.iaload, 1) := by decide +kernel
theorem dL_law_1124 : decode cL_law 1124 = .ok (.aload_n 0, 1) := by decide +kernel
theorem dL_law_1125 : decode cL_law 1125 = .ok (.iload_n 3, 1) := by decide +kernel
theorem dL_law_1126 : decode cL_law 1126 = .ok (.iconst 3, 1) := by decide +kernel
theorem dL_law_1127 : decode cL_law 1127 = .ok (.iadd, 1) := by decide +kernel
theorem dL_law_1128 : decode cL_law 1128 = .ok (.iaload, 1) := by decide +kernel
theorem dL_law_1129 : decode cL_law 1129 = .ok (.ifCond .eq 7, 3) := by decide +kernel
theorem dL_law_1132 : decode cL_law 1132 = .ok (.iconst 1, 1) := by decide +kernel
theorem dL_law_1133 : decode cL_law 1133 = .ok (.goto 4, 3) := by decide +kernel
theorem dL_law_1136 : decode cL_law 1136 = .ok (.iconst 0, 1) := by decide +kernel
theorem dL_law_1137 : decode cL_law 1137 = .ok (.invokevirtual 120, 3) := by decide +kernel
theorem dL_law_1140 : decode cL_law 1140 = .ok (.if_icmp .eq 623, 3) := by decide +kernel
theorem dL_law_1143 : decode cL_law 1143 = .ok (.iconst 0, 1) := by decide +kernel
theorem dL_law_1144 : decode cL_law 1144 = .ok (.ireturn, 1) := by decide +kernel
theorem dL_law_1145 : decode cL_law 1145 = .ok (.aload_n 1, 1) := by decide +kernel
theorem dL_law_1146 : decode cL_law 1146 = .ok (.aload_n 0, 1) := by decide +kernel
theorem dL_law_1147 : decode cL_law 1147 = .ok (.iload_n 3, 1) := by decide +kernel
theorem dL_law_1148 : decode cL_law 1148 = .ok (.iconst 1, 1) := by decide +kernel
theorem dL_law_1149 : decode cL_law 1149 = .ok (.iadd, 1) := by decide +kernel
theorem dL_law_1150 : decode cL_law 1150 = .ok (.iaload, 1) := by decide +kernel
theorem dL_law_1151 : decode cL_law 1151 = .ok (.aload_n 0, 1) := by decide +kernel
theorem dL_law_1152 : decode cL_law 1152 = .ok (.iload_n 3, 1) := by decide +kernel
theorem dL_law_1153 : decode cL_law 1153 = .ok (.iconst 2, 1) := by decide +kernel
theorem dL_law_1154 : decode cL_law 1154 = .ok (.iadd, 1) := by decide +kernel
theorem dL_law_1155 : decode cL_law 1155 = .ok (.iaload, 1) := by decide +kernel
theorem dL_law_1156 : decode cL_law 1156 = .ok (.aload_n 0, 1) := by decide +kernel
theorem dL_law_1157 : decode cL_law 1157 = .ok (.iload_n 3, 1) := by decide +kernel
theorem dL_law_1158 : decode cL_law 1158 = .ok (.iconst 3, 1) := by decide +kernel
theorem dL_law_1159 : decode cL_law 1159 = .ok (.iadd, 1) := by decide +kernel
theorem dL_law_1160 : decode cL_law 1160 = .ok (.iaload, 1) := by decide +kernel
theorem dL_law_1161 : decode cL_law 1161 = .ok (.invokevirtual 121, 3) := by decide +kernel
theorem dL_law_1164 : decode cL_law 1164 = .ok (.aload_n 2, 1) := by decide +kernel
theorem dL_law_1165 : decode cL_law 1165 = .ok (.aload_n 0, 1) := by decide +kernel
theorem dL_law_1166 : decode cL_law 1166 = .ok (.iload_n 3, 1) := by decide +kernel
theorem dL_law_1167 : decode cL_law 1167 = .ok (.iconst 1, 1) := by decide +kernel
theorem dL_law_1168 : decode cL_law 1168 = .ok (.iadd, 1) := by decide +kernel
theorem dL_law_1169 : decode cL_law 1169 = .ok (.iaload, 1) := by decide +kernel
theorem dL_law_1170 : decode cL_law 1170 = .ok (.aload_n 0, 1) := by decide +kernel
theorem dL_law_1171 : decode cL_law 1171 = .ok (.iload_n 3, 1) := by decide +kernel
theorem dL_law_1172 : decode cL_law 1172 = .ok (.iconst 2, 1) := by decide +kernel
theorem dL_law_1173 : decode cL_law 1173 = .ok (.iadd, 1) := by decide +kernel
theorem dL_law_1174 : decode cL_law 1174 = .ok (.iaload, 1) := by decide +kernel
theorem dL_law_1175 : decode cL_law 1175 = .ok (.aload_n 0, 1) := by decide +kernel
theorem dL_law_1176 : decode cL_law 1176 = .ok (.iload_n 3, 1) := by decide +kernel
theorem dL_law_1177 : decode cL_law 1177 = .ok (.iconst 3, 1) := by decide +kernel
theorem dL_law_1178 : decode cL_law 1178 = .ok (.iadd, 1) := by decide +kernel
theorem dL_law_1179 : decode cL_law 1179 = .ok (.iaload, 1) := by decide +kernel
theorem dL_law_1180 : decode cL_law 1180 = .ok (.invokevirtual 124, 3) := by decide +kernel
theorem dL_law_1183 : decode cL_law 1183 = .ok (.if_icmp .eq 580, 3) := by decide +kernel
theorem dL_law_1186 : decode cL_law 1186 = .ok (.iconst 0, 1) := by decide +kernel
theorem dL_law_1187 : decode cL_law 1187 = .ok (.ireturn, 1) := by decide +kernel
theorem dL_law_1188 : decode cL_law 1188 = .ok (.aload_n 1, 1) := by decide +kernel
theorem dL_law_1189 : decode cL_law 1189 = .ok (.aload_n 0, 1) := by decide +kernel
theorem dL_law_1190 : decode cL_law 1190 = .ok (.iload_n 3, 1) := by decide +kernel
theorem dL_law_1191 : decode cL_law 1191 = .ok (.iconst 1, 1) := by decide +kernel
theorem dL_law_1192 : decode cL_law 1192 = .ok (.iadd, 1) := by decide +kernel
theorem dL_law_1193 : decode cL_law 1193 = .ok (.iaload, 1) := by decide +kernel
theorem dL_law_1194 : decode cL_law 1194 = .ok (.aload_n 0, 1) := by decide +kernel
theorem dL_law_1195 : decode cL_law 1195 = .ok (.iload_n 3, 1) := by decide +kernel
theorem dL_law_1196 : decode cL_law 1196 = .ok (.iconst 2, 1) := by decide +kernel
theorem dL_law_1197 : decode cL_law 1197 = .ok (.iadd, 1) := by decide +kernel
theorem dL_law_1198 : decode cL_law 1198 = .ok (.iaload, 1) := by decide +kernel
theorem dL_law_1199 : decode cL_law 1199 = .ok (.aload_n 0, 1) := by decide +kernel
theorem dL_law_1200 : decode cL_law 1200 = .ok (.iload_n 3, 1) := by decide +kernel
theorem dL_law_1201 : decode cL_law 1201 = .ok (.iconst 3, 1) := by decide +kernel
theorem dL_law_1202 : decode cL_law 1202 = .ok (.iadd, 1) := by decide +kernel
theorem dL_law_1203 : decode cL_law 1203 = .ok (.iaload, 1) := by decide +kernel
theorem dL_law_1204 : decode cL_law 1204 = .ok (.invokevirtual 125, 3) := by decide +kernel
theorem dL_law_1207 : decode cL_law 1207 = .ok (.aload_n 2, 1) := by decide +kernel
theorem dL_law_1208 : decode cL_law 1208 = .ok (.aload_n 0, 1) := by decide +kernel
theorem dL_law_1209 : decode cL_law 1209 = .ok (.iload_n 3, 1) := by decide +kernel
theorem dL_law_1210 : decode cL_law 1210 = .ok (.iconst 1, 1) := by decide +kernel
theorem dL_law_1211 : decode cL_law 1211 = .ok (.iadd, 1) := by decide +kernel
theorem dL_law_1212 : decode cL_law 1212 = .ok (.iaload, 1) := by decide +kernel
theorem dL_law_1213 : decode cL_law 1213 = .ok (.aload_n 0, 1) := by decide +kernel
theorem dL_law_1214 : decode cL_law 1214 = .ok (.iload_n 3, 1) := by decide +kernel
theorem dL_law_1215 : decode cL_law 1215 = .ok (.iconst 2, 1) := by decide +kernel
theorem dL_law_1216 : decode cL_law 1216 = .ok (.iadd, 1) := by decide +kernel
theorem dL_law_1217 : decode cL_law 1217 = .ok (.iaload, 1) := by decide +kernel
theorem dL_law_1218 : decode cL_law 1218 = .ok (.aload_n 0, 1) := by decide +kernel
theorem dL_law_1219 : decode cL_law 1219 = .ok (.iload_n 3, 1) := by decide +kernel
theorem dL_law_1220 : decode cL_law 1220 = .ok (.iconst 3, 1) := by decide +kernel
theorem dL_law_1221 : decode cL_law 1221 = .ok (.iadd, 1) := by decide +kernel
theorem dL_law_1222 : decode cL_law 1222 = .ok (.iaload, 1) := by decide +kernel
theorem dL_law_1223 : decode cL_law 1223 = .ok (.invokevirtual 128, 3) := by decide +kernel
theorem dL_law_1226 : decode cL_law 1226 = .ok (.if_icmp .eq 537, 3) := by decide +kernel
theorem dL_law_1229 : decode cL_law 1229 = .ok (.iconst 0, 1) := by decide +kernel
theorem dL_law_1230 : decode cL_law 1230 = .ok (.ireturn, 1) := by decide +kernel
theorem dL_law_1231 : decode cL_law 1231 = .ok (.aload_n 1, 1) := by decide +kernel
theorem dL_law_1232 : decode cL_law 1232 = .ok (.aload_n 0, 1) := by decide +kernel
theorem dL_law_1233 : decode cL_law 1233 = .ok (.iload_n 3, 1) := by decide +kernel
theorem dL_law_1234 : decode cL_law 1234 = .ok (.iconst 1, 1) := by decide +kernel
theorem dL_law_1235 : decode cL_law 1235 = .ok (.iadd, 1) := by decide +kernel
theorem dL_law_1236 : decode cL_law 1236 = .ok (.iaload, 1) := by decide +kernel
theorem dL_law_1237 : decode cL_law 1237 = .ok (.aload_n 0, 1) := by decide +kernel
theorem dL_law_1238 : decode cL_law 1238 = .ok (.iload_n 3, 1) := by decide +kernel
theorem dL_law_1239 : decode cL_law 1239 = .ok (.iconst 2, 1) := by decide +kernel
theorem dL_law_1240 : decode cL_law 1240 = .ok (.iadd, 1) := by decide +kernel
theorem dL_law_1241 : decode cL_law 1241 = .ok (.iaload, 1) := by decide +kernel
theorem dL_law_1242 : decode cL_law 1242 = .ok (.invokevirtual 129, 3) := by decide +kernel
theorem dL_law_1245 : decode cL_law 1245 = .ok (.aload_n 2, 1) := by decide +kernel
theorem dL_law_1246 : decode cL_law 1246 = .ok (.aload_n 0, 1) := by decide +kernel
theorem dL_law_1247 : decode cL_law 1247 = .ok (.iload_n 3, 1) := by decide +kernel
theorem dL_law_1248 : decode cL_law 1248 = .ok (.iconst 1, 1) := by decide +kernel
theorem dL_law_1249 : decode cL_law 1249 = .ok (.iadd, 1) := by decide +kernel
theorem dL_law_1250 : decode cL_law 1250 = .ok (.iaload, 1) := by decide +kernel
theorem dL_law_1251 : decode cL_law 1251 = .ok (.aload_n 0, 1) := by decide +kernel
theorem dL_law_1252 : decode cL_law 1252 = .ok (.iload_n 3, 1) := by decide +kernel
theorem dL_law_1253 : decode cL_law 1253 = .ok (.iconst 2, 1) := by decide +kernel
theorem dL_law_1254 : decode cL_law 1254 = .ok (.iadd, 1) := by decide +kernel
theorem dL_law_1255 : decode cL_law 1255 = .ok (.iaload, 1) := by decide +kernel
theorem dL_law_1256 : decode cL_law 1256 = .ok (.invokevirtual 132, 3) := by decide +kernel
theorem dL_law_1259 : decode cL_law 1259 = .ok (.if_icmp .eq 504, 3) := by decide +kernel
theorem dL_law_1262 : decode cL_law 1262 = .ok (.iconst 0, 1) := by decide +kernel
theorem dL_law_1263 : decode cL_law 1263 = .ok (.ireturn, 1) := by decide +kernel
theorem dL_law_1264 : decode cL_law 1264 = .ok (.aload_n 1, 1) := by decide +kernel
theorem dL_law_1265 : decode cL_law 1265 = .ok (.aload_n 0, 1) := by decide +kernel
theorem dL_law_1266 : decode cL_law 1266 = .ok (.iload_n 3, 1) := by decide +kernel
theorem dL_law_1267 : decode cL_law 1267 = .ok (.iconst 1, 1) := by decide +kernel
theorem dL_law_1268 : decode cL_law 1268 = .ok (.iadd, 1) := by decide +kernel
theorem dL_law_1269 : decode cL_law 1269 = .ok (.iaload, 1) := by decide +kernel
theorem dL_law_1270 : decode cL_law 1270 = .ok (.aload_n 0, 1) := by decide +kernel
theorem dL_law_1271 : decode cL_law 1271 = .ok (.iload_n 3, 1) := by decide +kernel
theorem dL_law_1272 : decode cL_law 1272 = .ok (.iconst 2, 1) := by decide +kernel
theorem dL_law_1273 : decode cL_law 1273 = .ok (.iadd, 1) := by decide +kernel
theorem dL_law_1274 : decode cL_law 1274 = .ok (.iaload, 1) := by decide +kernel
theorem dL_law_1275 : decode cL_law 1275 = .ok (.invokevirtual 133, 3) := by decide +kernel
theorem dL_law_1278 : decode cL_law 1278 = .ok (.aload_n 2, 1) := by decide +kernel
theorem dL_law_1279 : decode cL_law 1279 = .ok (.aload_n 0, 1) := by decide +kernel
theorem dL_law_1280 : decode cL_law 1280 = .ok (.iload_n 3, 1) := by decide +kernel
theorem dL_law_1281 : decode cL_law 1281 = .ok (.iconst 1, 1) := by decide +kernel
theorem dL_law_1282 : decode cL_law 1282 = .ok (.iadd, 1) := by decide +kernel
theorem dL_law_1283 : decode cL_law 1283 = .ok (.iaload, 1) := by decide +kernel
theorem dL_law_1284 : decode cL_law 1284 = .ok (.aload_n 0, 1) := by decide +kernel
theorem dL_law_1285 : decode cL_law 1285 = .ok (.iload_n 3, 1) := by decide +kernel
theorem dL_law_1286 : decode cL_law 1286 = .ok (.iconst 2, 1) := by decide +kernel
theorem dL_law_1287 : decode cL_law 1287 = .ok (.iadd, 1) := by decide +kernel
theorem dL_law_1288 : decode cL_law 1288 = .ok (.iaload, 1) := by decide +kernel
theorem dL_law_1289 : decode cL_law 1289 = .ok (.invokevirtual 136, 3) := by decide +kernel
theorem dL_law_1292 : decode cL_law 1292 = .ok (.if_icmp .eq 471, 3) := by decide +kernel
theorem dL_law_1295 : decode cL_law 1295 = .ok (.iconst 0, 1) := by decide +kernel
theorem dL_law_1296 : decode cL_law 1296 = .ok (.ireturn, 1) := by decide +kernel
theorem dL_law_1297 : decode cL_law 1297 = .ok (.aload_n 1, 1) := by decide +kernel
theorem dL_law_1298 : decode cL_law 1298 = .ok (.aload_n 0, 1) := by decide +kernel
theorem dL_law_1299 : decode cL_law 1299 = .ok (.iload_n 3, 1) := by decide +kernel
theorem dL_law_1300 : decode cL_law 1300 = .ok (.iconst 1, 1) := by decide +kernel
theorem dL_law_1301 : decode cL_law 1301 = .ok (.iadd, 1) := by decide +kernel
theorem dL_law_1302 : decode cL_law 1302 = .ok (.iaload, 1) := by decide +kernel
theorem dL_law_1303 : decode cL_law 1303 = .ok (.aload_n 0, 1) := by decide +kernel
theorem dL_law_1304 : decode cL_law 1304 = .ok (.iload_n 3, 1) := by decide +kernel
theorem dL_law_1305 : decode cL_law 1305 = .ok (.iconst 2, 1) := by decide +kernel
theorem dL_law_1306 : decode cL_law 1306 = .ok (.iadd, 1) := by decide +kernel
theorem dL_law_1307 : decode cL_law 1307 = .ok (.iaload, 1) := by decide +kernel
theorem dL_law_1308 : decode cL_law 1308 = .ok (.invokevirtual 137, 3) := by decide +kernel
theorem dL_law_1311 : decode cL_law 1311 = .ok (.aload_n 2, 1) := by decide +kernel
theorem dL_law_1312 : decode cL_law 1312 = .ok (.aload_n 0, 1) := by decide +kernel
theorem dL_law_1313 : decode cL_law 1313 = .ok (.iload_n 3, 1) := by decide +kernel
theorem dL_law_1314 : decode cL_law 1314 = .ok (.iconst 1, 1) := by decide +kernel
theorem dL_law_1315 : decode cL_law 1315 = .ok (.iadd, 1) := by decide +kernel
theorem dL_law_1316 : decode cL_law 1316 = .ok (.iaload, 1) := by decide +kernel
theorem dL_law_1317 : decode cL_law 1317 = .ok (.aload_n 0, 1) := by decide +kernel
theorem dL_law_1318 : decode cL_law 1318 = .ok (.iload_n 3, 1) := by decide +kernel
theorem dL_law_1319 : decode cL_law 1319 = .ok (.iconst 2, 1) := by decide +kernel
theorem dL_law_1320 : decode cL_law 1320 = .ok (.iadd, 1) := by decide +kernel
theorem dL_law_1321 : decode cL_law 1321 = .ok (.iaload, 1) := by decide +kernel
theorem dL_law_1322 : decode cL_law 1322 = .ok (.invokevirtual 140, 3) := by decide +kernel
theorem dL_law_1325 : decode cL_law 1325 = .ok (.if_icmp .eq 438, 3) := by decide +kernel
theorem dL_law_1328 : decode cL_law 1328 = .ok (.iconst 0, 1) := by decide +kernel
theorem dL_law_1329 : decode cL_law 1329 = .ok (.ireturn, 1) := by decide +kernel
theorem dL_law_1330 : decode cL_law 1330 = .ok (.aload_n 1, 1) := by decide +kernel
theorem dL_law_1331 : decode cL_law 1331 = .ok (.aload_n 0, 1) := by decide +kernel
theorem dL_law_1332 : decode cL_law 1332 = .ok (.iload_n 3, 1) := by decide +kernel
theorem dL_law_1333 : decode cL_law 1333 = .ok (.iconst 1, 1) := by decide +kernel
theorem dL_law_1334 : decode cL_law 1334 = .ok (.iadd, 1) := by decide +kernel
theorem dL_law_1335 : decode cL_law 1335 = .ok (.iaload, 1) := by decide +kernel
theorem dL_law_1336 : decode cL_law 1336 = .ok (.aload_n 0, 1) := by decide +kernel
theorem dL_law_1337 : decode cL_law 1337 = .ok (.iload_n 3, 1) := by decide +kernel
theorem dL_law_1338 : decode cL_law 1338 = .ok (.iconst 2, 1) := by decide +kernel
theorem dL_law_1339 : decode cL_law 1339 = .ok (.iadd, 1) := by decide +kernel
theorem dL_law_1340 : decode cL_law 1340 = .ok (.iaload, 1) := by decide +kernel
theorem dL_law_1341 : decode cL_law 1341 = .ok (.aload_n 0, 1) := by decide +kernel
theorem dL_law_1342 : decode cL_law 1342 = .ok (.iload_n 3, 1) := by decide +kernel
theorem dL_law_1343 : decode cL_law 1343 = .ok (.iconst 3, 1) := by decide +kernel
theorem dL_law_1344 : decode cL_law 1344 = .ok (.iadd, 1) := by decide +kernel
theorem dL_law_1345 : decode cL_law 1345 = .ok (.iaload, 1) := by decide +kernel
theorem dL_law_1346 : decode cL_law 1346 = .ok (.aload_n 0, 1) := by decide +kernel
theorem dL_law_1347 : decode cL_law 1347 = .ok (.iload_n 3, 1) := by decide +kernel
theorem dL_law_1348 : decode cL_law 1348 = .ok (.iconst 4, 1) := by decide +kernel
theorem dL_law_1349 : decode cL_law 1349 = .ok (.iadd, 1) := by decide +kernel
theorem dL_law_1350 : decode cL_law 1350 = .ok (.iaload, 1) := by decide +kernel
theorem dL_law_1351 : decode cL_law 1351 = .ok (.aload_n 0, 1) := by decide +kernel
theorem dL_law_1352 : decode cL_law 1352 = .ok (.iload_n 3, 1) := by decide +kernel
theorem dL_law_1353 : decode cL_law 1353 = .ok (.iconst 5, 1) := by decide +kernel
theorem dL_law_1354 : decode cL_law 1354 = .ok (.iadd, 1) := by decide +kernel
theorem dL_law_1355 : decode cL_law 1355 = .ok (.iaload, 1) := by decide +kernel
theorem dL_law_1356 : decode cL_law 1356 = .ok (.invokevirtual 141, 3) := by decide +kernel
theorem dL_law_1359 : decode cL_law 1359 = .ok (.aload_n 2, 1) := by decide +kernel
theorem dL_law_1360 : decode cL_law 1360 = .ok (.aload_n 0, 1) := by decide +kernel
theorem dL_law_1361 : decode cL_law 1361 = .ok (.iload_n 3, 1) := by decide +kernel
theorem dL_law_1362 : decode cL_law 1362 = .ok (.iconst 1, 1) := by decide +kernel
theorem dL_law_1363 : decode cL_law 1363 = .ok (.iadd, 1) := by decide +kernel
theorem dL_law_1364 : decode cL_law 1364 = .ok (.iaload, 1) := by decide +kernel
theorem dL_law_1365 : decode cL_law 1365 = .ok (.aload_n 0, 1) := by decide +kernel
theorem dL_law_1366 : decode cL_law 1366 = .ok (.iload_n 3, 1) := by decide +kernel
theorem dL_law_1367 : decode cL_law 1367 = .ok (.iconst 2, 1) := by decide +kernel
theorem dL_law_1368 : decode cL_law 1368 = .ok (.iadd, 1) := by decide +kernel
theorem dL_law_1369 : decode cL_law 1369 = .ok (.iaload, 1) := by decide +kernel
theorem dL_law_1370 : decode cL_law 1370 = .ok (.aload_n 0, 1) := by decide +kernel
theorem dL_law_1371 : decode cL_law 1371 = .ok (.iload_n 3, 1) := by decide +kernel
theorem dL_law_1372 : decode cL_law 1372 = .ok (.iconst 3, 1) := by decide +kernel
theorem dL_law_1373 : decode cL_law 1373 = .ok (.iadd, 1) := by decide +kernel
theorem dL_law_1374 : decode cL_law 1374 = .ok (.iaload, 1) := by decide +kernel
theorem dL_law_1375 : decode cL_law 1375 = .ok (.aload_n 0, 1) := by decide +kernel
theorem dL_law_1376 : decode cL_law 1376 = .ok (.iload_n 3, 1) := by decide +kernel
theorem dL_law_1377 : decode cL_law 1377 = .ok (.iconst 4, 1) := by decide +kernel
theorem dL_law_1378 : decode cL_law 1378 = .ok (.iadd, 1) := by decide +kernel
theorem dL_law_1379 : decode cL_law 1379 = .ok (.iaload, 1) := by decide +kernel
theorem dL_law_1380 : decode cL_law 1380 = .ok (.aload_n 0, 1) := by decide +kernel
theorem dL_law_1381 : decode cL_law 1381 = .ok (.iload_n 3, 1) := by decide +kernel
theorem dL_law_1382 : decode cL_law 1382 = .ok (.iconst 5, 1) := by decide +kernel
theorem dL_law_1383 : decode cL_law 1383 = .ok (.iadd, 1) := by decide +kernel
theorem dL_law_1384 : decode cL_law 1384 = .ok (.iaload, 1) := by decide +kernel
theorem dL_law_1385 : decode cL_law 1385 = .ok (.invokevirtual 144, 3) := by decide +kernel
theorem dL_law_1388 : decode cL_law 1388 = .ok (.if_icmp .eq 375, 3) := by decide +kernel
theorem dL_law_1391 : decode cL_law 1391 = .ok (.iconst 0, 1) := by decide +kernel
theorem dL_law_1392 : decode cL_law 1392 = .ok (.ireturn, 1) := by decide +kernel
theorem dL_law_1393 : decode cL_law 1393 = .ok (.aload_n 1, 1) := by decide +kernel
theorem dL_law_1394 : decode cL_law 1394 = .ok (.aload_n 0, 1) := by decide +kernel
theorem dL_law_1395 : decode cL_law 1395 = .ok (.iload_n 3, 1) := by decide +kernel
theorem dL_law_1396 : decode cL_law 1396 = .ok (.iconst 1, 1) := by decide +kernel
theorem dL_law_1397 : decode cL_law 1397 = .ok (.iadd, 1) := by decide +kernel
theorem dL_law_1398 : decode cL_law 1398 = .ok (.iaload, 1) := by decide +kernel
theorem dL_law_1399 : decode cL_law 1399 = .ok (.invokevirtual 145, 3) := by decide +kernel
theorem dL_law_1402 : decode cL_law 1402 = .ok (.aload_n 2, 1) := by decide +kernel
theorem dL_law_1403 : decode cL_law 1403 = .ok (.aload_n 0, 1) := by decide +kernel
theorem dL_law_1404 : decode cL_law 1404 = .ok (.iload_n 3, 1) := by decide +kernel
theorem dL_law_1405 : decode cL_law 1405 = .ok (.iconst 1, 1) := by decide +kernel
theorem dL_law_1406 : decode cL_law 1406 = .ok (.iadd, 1) := by decide +kernel
theorem dL_law_1407 : decode cL_law 1407 = .ok (.iaload, 1) := by decide +kernel
theorem dL_law_1408 : decode cL_law 1408 = .ok (.invokevirtual 148, 3) := by decide +kernel
theorem dL_law_1411 : decode cL_law 1411 = .ok (.if_icmp .eq 352, 3) := by decide +kernel
theorem dL_law_1414 : decode cL_law 1414 = .ok (.iconst 0, 1) := by decide +kernel
theorem dL_law_1415 : decode cL_law 1415 = .ok (.ireturn, 1) := by decide +kernel
theorem dL_law_1416 : decode cL_law 1416 = .ok (.aload_n 1, 1) := by decide +kernel
theorem dL_law_1417 : decode cL_law 1417 = .ok (.aload_n 0, 1) := by decide +kernel
theorem dL_law_1418 : decode cL_law 1418 = .ok (.iload_n 3, 1) := by decide +kernel
theorem dL_law_1419 : decode cL_law 1419 = .ok (.iconst 1, 1) := by decide +kernel
theorem dL_law_1420 : decode cL_law 1420 = .ok (.iadd, 1) := by decide +kernel
theorem dL_law_1421 : decode cL_law 1421 = .ok (.iaload, 1) := by decide +kernel
theorem dL_law_1422 : decode cL_law 1422 = .ok (.aload_n 0, 1) := by decide +kernel
theorem dL_law_1423 : decode cL_law 1423 = .ok (.iload_n 3, 1) := by decide +kernel
theorem dL_law_1424 : decode cL_law 1424 = .ok (.iconst 2, 1) := by decide +kernel
theorem dL_law_1425 : decode cL_law 1425 = .ok (.iadd, 1) := by decide +kernel
theorem dL_law_1426 : decode cL_law 1426 = .ok (.iaload, 1) := by decide +kernel
theorem dL_law_1427 : decode cL_law 1427 = .ok (.invokevirtual 149, 3) := by decide +kernel
theorem dL_law_1430 : decode cL_law 1430 = .ok (.aload_n 2, 1) := by decide +kernel
theorem dL_law_1431 : decode cL_law 1431 = .ok (.aload_n 0, 1) := by decide +kernel
theorem dL_law_1432 : decode cL_law 1432 = .ok (.iload_n 3, 1) := by decide +kernel
theorem dL_law_1433 : decode cL_law 1433 = .ok (.iconst 1, 1) := by decide +kernel
theorem dL_law_1434 : decode cL_law 1434 = .ok (.iadd, 1) := by decide +kernel
theorem dL_law_1435 : decode cL_law 1435 = .ok (.iaload, 1) := by decide +kernel
theorem dL_law_1436 : decode cL_law 1436 = .ok (.aload_n 0, 1) := by decide +kernel
theorem dL_law_1437 : decode cL_law 1437 = .ok (.iload_n 3, 1) := by decide +kernel
theorem dL_law_1438 : decode cL_law 1438 = .ok (.iconst 2, 1) := by decide +kernel
theorem dL_law_1439 : decode cL_law 1439 = .ok (.iadd, 1) := by decide +kernel
theorem dL_law_1440 : decode cL_law 1440 = .ok (.iaload, 1) := by decide +kernel
theorem dL_law_1441 : decode cL_law 1441 = .ok (.invokevirtual 152, 3) := by decide +kernel
theorem dL_law_1444 : decode cL_law 1444 = .ok (.if_icmp .eq 319, 3) := by decide +kernel
theorem dL_law_1447 : decode cL_law 1447 = .ok (.iconst 0, 1) := by decide +kernel
theorem dL_law_1448 : decode cL_law 1448 = .ok (.ireturn, 1) := by decide +kernel
theorem dL_law_1449 : decode cL_law 1449 = .ok (.aload_n 1, 1) := by decide +kernel
theorem dL_law_1450 : decode cL_law 1450 = .ok (.aload_n 0, 1) := by decide +kernel
theorem dL_law_1451 : decode cL_law 1451 = .ok (.iload_n 3, 1) := by decide +kernel
theorem dL_law_1452 : decode cL_law 1452 = .ok (.iconst 1, 1) := by decide +kernel
theorem dL_law_1453 : decode cL_law 1453 = .ok (.iadd, 1) := by decide +kernel
theorem dL_law_1454 : decode cL_law 1454 = .ok (.iaload, 1) := by decide +kernel
theorem dL_law_1455 : decode cL_law 1455 = .ok (.aload_n 0, 1) := by decide +kernel
theorem dL_law_1456 : decode cL_law 1456 = .ok (.iload_n 3, 1) := by decide +kernel
theorem dL_law_1457 : decode cL_law 1457 = .ok (.iconst 2, 1) := by decide +kernel
theorem dL_law_1458 : decode cL_law 1458 = .ok (.iadd, 1) := by decide +kernel
theorem dL_law_1459 : decode cL_law 1459 = .ok (.iaload, 1) := by decide +kernel
theorem dL_law_1460 : decode cL_law 1460 = .ok (.invokevirtual 153, 3) := by decide +kernel
theorem dL_law_1463 : decode cL_law 1463 = .ok (.aload_n 2, 1) := by decide +kernel
theorem dL_law_1464 : decode cL_law 1464 = .ok (.aload_n 0, 1) := by decide +kernel
theorem dL_law_1465 : decode cL_law 1465 = .ok (.iload_n 3, 1) := by decide +kernel
theorem dL_law_1466 : decode cL_law 1466 = .ok (.iconst 1, 1) := by decide +kernel
theorem dL_law_1467 : decode cL_law 1467 = .ok (.iadd, 1) := by decide +kernel
theorem dL_law_1468 : decode cL_law 1468 = .ok (.iaload, 1) := by decide +kernel
theorem dL_law_1469 : decode cL_law 1469 = .ok (.aload_n 0, 1) := by decide +kernel
theorem dL_law_1470 : decode cL_law 1470 = .ok (.iload_n 3, 1) := by decide +kernel
theorem dL_law_1471 : decode cL_law 1471 = .ok (.iconst 2, 1) := by decide +kernel
theorem dL_law_1472 : decode cL_law 1472 = .ok (.iadd, 1) := by decide +kernel
theorem dL_law_1473 : decode cL_law 1473 = .ok (.iaload, 1) := by decide +kernel
theorem dL_law_1474 : decode cL_law 1474 = .ok (.invokevirtual 156, 3) := by decide +kernel
theorem dL_law_1477 : decode cL_law 1477 = .ok (.if_icmp .eq 286, 3) := by decide +kernel
theorem dL_law_1480 : decode cL_law 1480 = .ok (.iconst 0, 1) := by decide +kernel
theorem dL_law_1481 : decode cL_law 1481 = .ok (.ireturn, 1) := by decide +kernel
theorem dL_law_1482 : decode cL_law 1482 = .ok (.aload_n 1, 1) := by decide +kernel
theorem dL_law_1483 : decode cL_law 1483 = .ok (.aload_n 0, 1) := by decide +kernel
theorem dL_law_1484 : decode cL_law 1484 = .ok (.iload_n 3, 1) := by decide +kernel
theorem dL_law_1485 : decode cL_law 1485 = .ok (.iconst 1, 1) := by decide +kernel
theorem dL_law_1486 : decode cL_law 1486 = .ok (.iadd, 1) := by decide +kernel
theorem dL_law_1487 : decode cL_law 1487 = .ok (.iaload, 1) := by decide +kernel
theorem dL_law_1488 : decode cL_law 1488 = .ok (.aload_n 0, 1) := by decide +kernel
theorem dL_law_1489 : decode cL_law 1489 = .ok (.iload_n 3, 1) := by decide +kernel
theorem dL_law_1490 : decode cL_law 1490 = .ok (.iconst 2, 1) := by decide +kernel
theorem dL_law_1491 : decode cL_law 1491 = .ok (.iadd, 1) := by decide +kernel
theorem dL_law_1492 : decode cL_law 1492 = .ok (.iaload, 1) := by decide +kernel
theorem dL_law_1493 : decode cL_law 1493 = .ok (.invokevirtual 157, 3) := by decide +kernel
theorem dL_law_1496 : decode cL_law 1496 = .ok (.aload_n 2, 1) := by decide +kernel
theorem dL_law_1497 : decode cL_law 1497 = .ok (.aload_n 0, 1) := by decide +kernel
theorem dL_law_1498 : decode cL_law 1498 = .ok (.iload_n 3, 1) := by decide +kernel
theorem dL_law_1499 : decode cL_law 1499 = .ok (.iconst 1, 1) := by decide +kernel
theorem dL_law_1500 : decode cL_law 1500 = .ok (.iadd, 1) := by decide +kernel
theorem dL_law_1501 : decode cL_law 1501 = .ok (.iaload, 1) := by decide +kernel
theorem dL_law_1502 : decode cL_law 1502 = .ok (.aload_n 0, 1) := by decide +kernel
theorem dL_law_1503 : decode cL_law 1503 = .ok (.iload_n 3, 1) := by decide +kernel
theorem dL_law_1504 : decode cL_law 1504 = .ok (.iconst 2, 1) := by decide +kernel
theorem dL_law_1505 : decode cL_law 1505 = .ok (.iadd, 1) := by decide +kernel
theorem dL_law_1506 : decode cL_law 1506 = .ok (.iaload, 1) := by decide +kernel
theorem dL_law_1507 : decode cL_law 1507 = .ok (.invokevirtual 160, 3) := by decide +kernel
theorem dL_law_1510 : decode cL_law 1510 = .ok (.if_icmp .eq 253, 3) := by decide +kernel
theorem dL_law_1513 : decode cL_law 1513 = .ok (.iconst 0, 1) := by decide +kernel
theorem dL_law_1514 : decode cL_law 1514 = .ok (.ireturn, 1) := by decide +kernel
theorem dL_law_1515 : decode cL_law 1515 = .ok (.aload_n 1, 1) := by decide +kernel
theorem dL_law_1516 : decode cL_law 1516 = .ok (.aload_n 0, 1) := by decide +kernel
theorem dL_law_1517 : decode cL_law 1517 = .ok (.iload_n 3, 1) := by decide +kernel
theorem dL_law_1518 : decode cL_law 1518 = .ok (.iconst 1, 1) := by decide +kernel
theorem dL_law_1519 : decode cL_law 1519 = .ok (.iadd, 1) := by decide +kernel
theorem dL_law_1520 : decode cL_law 1520 = .ok (.iaload, 1) := by decide +kernel
theorem dL_law_1521 : decode cL_law 1521 = .ok (.aload_n 0, 1) := by decide +kernel
theorem dL_law_1522 : decode cL_law 1522 = .ok (.iload_n 3, 1) := by decide +kernel
theorem dL_law_1523 : decode cL_law 1523 = .ok (.iconst 2, 1) := by decide +kernel
theorem dL_law_1524 : decode cL_law 1524 = .ok (.iadd, 1) := by decide +kernel
theorem dL_law_1525 : decode cL_law 1525 = .ok (.iaload, 1) := by decide +kernel
theorem dL_law_1526 : decode cL_law 1526 = .ok (.ifCond .eq 7, 3) := by decide +kernel
theorem dL_law_1529 : decode cL_law 1529 = .ok (.iconst 1, 1) := by decide +kernel
theorem dL_law_1530 : decode cL_law 1530 = .ok (.goto 4, 3) := by decide +kernel
theorem dL_law_1533 : decode cL_law 1533 = .ok (.iconst 0, 1) := by decide +kernel
theorem dL_law_1534 : decode cL_law 1534 = .ok (.invokevirtual 161, 3) := by decide +kernel
theorem dL_law_1537 : decode cL_law 1537 = .ok (.aload_n 2, 1) := by decide +kernel
theorem dL_law_1538 : decode cL_law 1538 = .ok (.aload_n 0, 1) := by decide +kernel
theorem dL_law_1539 : decode cL_law 1539 = .ok (.iload_n 3, 1) := by decide +kernel
theorem dL_law_1540 : decode cL_law 1540 = .ok (.iconst 1, 1) := by decide +kernel
theorem dL_law_1541 : decode cL_law 1541 = .ok (.iadd, 1) := by decide +kernel
theorem dL_law_1542 : decode cL_law 1542 = .ok (.iaload, 1) := by decide +kernel
theorem dL_law_1543 : decode cL_law 1543 = .ok (.aload_n 0, 1) := by decide +kernel
theorem dL_law_1544 : decode cL_law 1544 = .ok (.iload_n 3, 1) := by decide +kernel
theorem dL_law_1545 : decode cL_law 1545 = .ok (.iconst 2, 1) := by decide +kernel
theorem dL_law_1546 : decode cL_law 1546 = .ok (.iadd, 1) := by decide +kernel
theorem dL_law_1547 : decode cL_law 1547 = .ok (.iaload, 1) := by decide +kernel
theorem dL_law_1548 : decode cL_law 1548 = .ok (.ifCond .eq 7, 3) := by decide +kernel
theorem dL_law_1551 : decode cL_law 1551 = .ok (.iconst 1, 1) := by decide +kernel
theorem dL_law_1552 : decode cL_law 1552 = .ok (.goto 4, 3) := by decide +kernel
theorem dL_law_1555 : decode cL_law 1555 = .ok (.iconst 0, 1) := by decide +kernel
theorem dL_law_1556 : decode cL_law 1556 = .ok (.invokevirtual 164, 3) := by decide +kernel
theorem dL_law_1559 : decode cL_law 1559 = .ok (.if_icmp .eq 204, 3) := by decide +kernel
theorem dL_law_1562 : decode cL_law 1562 = .ok (.iconst 0, 1) := by decide +kernel
theorem dL_law_1563 : decode cL_law 1563 = .ok (.ireturn, 1) := by decide +kernel
theorem dL_law_1564 : decode cL_law 1564 = .ok (.aload_n 1, 1) := by decide +kernel
theorem dL_law_1565 : decode cL_law 1565 = .ok (.invokevirtual 165, 3) := by decide +kernel
theorem dL_law_1568 : decode cL_law 1568 = .ok (.aload_n 2, 1) := by decide +kernel
theorem dL_law_1569 : decode cL_law 1569 = .ok (.invokevirtual 168, 3) := by decide +kernel
theorem dL_law_1572 : decode cL_law 1572 = .ok (.if_icmp .eq 191, 3) := by decide +kernel
theorem dL_law_1575 : decode cL_law 1575 = .ok (.iconst 0, 1) := by decide +kernel
theorem dL_law_1576 : decode cL_law 1576 = .ok (.ireturn, 1) := by decide +kernel
theorem dL_law_1577 : decode cL_law 1577 = .ok (.aload_n 1, 1) := by decide +kernel
theorem dL_law_1578 : decode cL_law 1578 = .ok (.aload_n 0, 1) := by decide +kernel
theorem dL_law_1579 : decode cL_law 1579 = .ok (.iload_n 3, 1) := by decide +kernel
theorem dL_law_1580 : decode cL_law 1580 = .ok (.iconst 1, 1) := by decide +kernel
theorem dL_law_1581 : decode cL_law 1581 = .ok (.iadd, 1) := by decide +kernel
theorem dL_law_1582 : decode cL_law 1582 = .ok (.iaload, 1) := by decide +kernel
theorem dL_law_1583 : decode cL_law 1583 = .ok (.invokevirtual 169, 3) := by decide +kernel
theorem dL_law_1586 : decode cL_law 1586 = .ok (.aload_n 2, 1) := by decide +kernel
theorem dL_law_1587 : decode cL_law 1587 = .ok (.aload_n 0, 1) := by decide +kernel
theorem dL_law_1588 : decode cL_law 1588 = .ok (.iload_n 3, 1) := by decide +kernel
theorem dL_law_1589 : decode cL_law 1589 = .ok (.iconst 1, 1) := by decide +kernel
theorem dL_law_1590 : decode cL_law 1590 = .ok (.iadd, 1) := by decide +kernel
theorem dL_law_1591 : decode cL_law 1591 = .ok (.iaload, 1) := by decide +kernel
theorem dL_law_1592 : decode cL_law 1592 = .ok (.invokevirtual 172, 3) := by decide +kernel
theorem dL_law_1595 : decode cL_law 1595 = .ok (.if_icmp .eq 168, 3) := by decide +kernel
theorem dL_law_1598 : decode cL_law 1598 = .ok (.iconst 0, 1) := by decide +kernel
theorem dL_law_1599 : decode cL_law 1599 = .ok (.ireturn, 1) := by decide +kernel
theorem dL_law_1600 : decode cL_law 1600 = .ok (.aload_n 1, 1) := by decide +kernel
theorem dL_law_1601 : decode cL_law 1601 = .ok (.aload_n 0, 1) := by decide +kernel
theorem dL_law_1602 : decode cL_law 1602 = .ok (.iload_n 3, 1) := by decide +kernel
theorem dL_law_1603 : decode cL_law 1603 = .ok (.iconst 1, 1) := by decide +kernel
theorem dL_law_1604 : decode cL_law 1604 = .ok (.iadd, 1) := by decide +kernel
theorem dL_law_1605 : decode cL_law 1605 = .ok (.iaload, 1) := by decide +kernel
theorem dL_law_1606 : decode cL_law 1606 = .ok (.aload_n 0, 1) := by decide +kernel
theorem dL_law_1607 : decode cL_law 1607 = .ok (.iload_n 3, 1) := by decide +kernel
theorem dL_law_1608 : decode cL_law 1608 = .ok (.iconst 2, 1) := by decide +kernel
theorem dL_law_1609 : decode cL_law 1609 = .ok (.iadd, 1) := by decide +kernel
theorem dL_law_1610 : decode cL_law 1610 = .ok (.iaload, 1) := by decide +kernel
theorem dL_law_1611 : decode cL_law 1611 = .ok (.aload_n 0, 1) := by decide +kernel
theorem dL_law_1612 : decode cL_law 1612 = .ok (.iload_n 3, 1) := by decide +kernel
theorem dL_law_1613 : decode cL_law 1613 = .ok (.iconst 3, 1) := by decide +kernel
theorem dL_law_1614 : decode cL_law 1614 = .ok (.iadd, 1) := by decide +kernel
theorem dL_law_1615 : decode cL_law 1615 = .ok (.iaload, 1) := by decide +kernel
theorem dL_law_1616 : decode cL_law 1616 = .ok (.aload_n 0, 1) := by decide +kernel
theorem dL_law_1617 : decode cL_law 1617 = .ok (.iload_n 3, 1) := by decide +kernel
theorem dL_law_1618 : decode cL_law 1618 = .ok (.iconst 4, 1) := by decide +kernel
theorem dL_law_1619 : decode cL_law 1619 = .ok (.iadd, 1) := by decide +kernel
theorem dL_law_1620 : decode cL_law 1620 = .ok (.iaload, 1) := by decide +kernel
theorem dL_law_1621 : decode cL_law 1621 = .ok (.aload_n 0, 1) := by decide +kernel
theorem dL_law_1622 : decode cL_law 1622 = .ok (.iload_n 3, 1) := by decide +kernel
theorem dL_law_1623 : decode cL_law 1623 = .ok (.iconst 5, 1) := by decide +kernel
theorem dL_law_1624 : decode cL_law 1624 = .ok (.iadd, 1) := by decide +kernel
theorem dL_law_1625 : decode cL_law 1625 = .ok (.iaload, 1) := by decide +kernel
theorem dL_law_1626 : decode cL_law 1626 = .ok (.invokevirtual 173, 3) := by decide +kernel
theorem dL_law_1629 : decode cL_law 1629 = .ok (.aload_n 2, 1) := by decide +kernel
theorem dL_law_1630 : decode cL_law 1630 = .ok (.aload_n 0, 1) := by decide +kernel
theorem dL_law_1631 : decode cL_law 1631 = .ok (.iload_n 3, 1) := by decide +kernel
theorem dL_law_1632 : decode cL_law 1632 = .ok (.iconst 1, 1) := by decide +kernel
theorem dL_law_1633 : decode cL_law 1633 = .ok (.iadd, 1) := by decide +kernel
theorem dL_law_1634 : decode cL_law 1634 = .ok (.iaload, 1) := by decide +kernel
theorem dL_law_1635 : decode cL_law 1635 = .ok (.aload_n 0, 1) := by decide +kernel
theorem dL_law_1636 : decode cL_law 1636 = .ok (.iload_n 3, 1) := by decide +kernel
theorem dL_law_1637 : decode cL_law 1637 = .ok (.iconst 2, 1) := by decide +kernel
theorem dL_law_1638 : decode cL_law 1638 = .ok (.iadd, 1) := by decide +kernel
theorem dL_law_1639 : decode cL_law 1639 = .ok (.iaload, 1) := by decide +kernel
theorem dL_law_1640 : decode cL_law 1640 = .ok (.aload_n 0, 1) := by decide +kernel
theorem dL_law_1641 : decode cL_law 1641 = .ok (.iload_n 3, 1) := by decide +kernel
theorem dL_law_1642 : decode cL_law 1642 = .ok (.iconst 3, 1) := by decide +kernel
theorem dL_law_1643 : decode cL_law 1643 = .ok (.iadd, 1) := by decide +kernel
theorem dL_law_1644 : decode cL_law 1644 = .ok (.iaload, 1) := by decide +kernel
theorem dL_law_1645 : decode cL_law 1645 = .ok (.aload_n 0, 1) := by decide +kernel
theorem dL_law_1646 : decode cL_law 1646 = .ok (.iload_n 3, 1) := by decide +kernel
theorem dL_law_1647 : decode cL_law 1647 = .ok (.iconst 4, 1) := by decide +kernel
theorem dL_law_1648 : decode cL_law 1648 = .ok (.iadd, 1) := by decide +kernel
theorem dL_law_1649 : decode cL_law 1649 = .ok (.iaload, 1) := by decide +kernel
theorem dL_law_1650 : decode cL_law 1650 = .ok (.aload_n 0, 1) := by decide +kernel
theorem dL_law_1651 : decode cL_law 1651 = .ok (.iload_n 3, 1) := by decide +kernel
theorem dL_law_1652 : decode cL_law 1652 = .ok (.iconst 5, 1) := by decide +kernel
theorem dL_law_1653 : decode cL_law 1653 = .ok (.iadd, 1) := by decide +kernel
theorem dL_law_1654 : decode cL_law 1654 = .ok (.iaload, 1) := by decide +kernel
theorem dL_law_1655 : decode cL_law 1655 = .ok (.invokevirtual 177, 3) := by decide +kernel
theorem dL_law_1658 : decode cL_law 1658 = .ok (.lcmp, 1) := by decide +kernel
theorem dL_law_1659 : decode cL_law 1659 = .ok (.ifCond .eq 104, 3) := by decide +kernel
theorem dL_law_1662 : decode cL_law 1662 = .ok (.iconst 0, 1) := by decide +kernel
theorem dL_law_1663 : decode cL_law 1663 = .ok (.ireturn, 1) := by decide +kernel
theorem dL_law_1664 : decode cL_law 1664 = .ok (.aload_n 1, 1) := by decide +kernel
theorem dL_law_1665 : decode cL_law 1665 = .ok (.aload_n 0, 1) := by decide +kernel
theorem dL_law_1666 : decode cL_law 1666 = .ok (.iload_n 3, 1) := by decide +kernel
theorem dL_law_1667 : decode cL_law 1667 = .ok (.iconst 1, 1) := by decide +kernel
theorem dL_law_1668 : decode cL_law 1668 = .ok (.iadd, 1) := by decide +kernel
theorem dL_law_1669 : decode cL_law 1669 = .ok (.iaload, 1) := by decide +kernel
theorem dL_law_1670 : decode cL_law 1670 = .ok (.aload_n 0, 1) := by decide +kernel
theorem dL_law_1671 : decode cL_law 1671 = .ok (.iload_n 3, 1) := by decide +kernel
theorem dL_law_1672 : decode cL_law 1672 = .ok (.iconst 2, 1) := by decide +kernel
theorem dL_law_1673 : decode cL_law 1673 = .ok (.iadd, 1) := by decide +kernel
theorem dL_law_1674 : decode cL_law 1674 = .ok (.iaload, 1) := by decide +kernel
theorem dL_law_1675 : decode cL_law 1675 = .ok (.aload_n 0, 1) := by decide +kernel
theorem dL_law_1676 : decode cL_law 1676 = .ok (.iload_n 3, 1) := by decide +kernel
theorem dL_law_1677 : decode cL_law 1677 = .ok (.iconst 3, 1) := by decide +kernel
theorem dL_law_1678 : decode cL_law 1678 = .ok (.iadd, 1) := by decide +kernel
theorem dL_law_1679 : decode cL_law 1679 = .ok (.iaload, 1) := by decide +kernel
theorem dL_law_1680 : decode cL_law 1680 = .ok (.invokevirtual 178, 3) := by decide +kernel
theorem dL_law_1683 : decode cL_law 1683 = .ok (.aload_n 2, 1) := by decide +kernel
theorem dL_law_1684 : decode cL_law 1684 = .ok (.aload_n 0, 1) := by decide +kernel
theorem dL_law_1685 : decode cL_law 1685 = .ok (.iload_n 3, 1) := by decide +kernel
theorem dL_law_1686 : decode cL_law 1686 = .ok (.iconst 1, 1) := by decide +kernel
theorem dL_law_1687 : decode cL_law 1687 = .ok (.iadd, 1) := by decide +kernel
theorem dL_law_1688 : decode cL_law 1688 = .ok (.iaload, 1) := by decide +kernel
theorem dL_law_1689 : decode cL_law 1689 = .ok (.aload_n 0, 1) := by decide +kernel
theorem dL_law_1690 : decode cL_law 1690 = .ok (.iload_n 3, 1) := by decide +kernel
theorem dL_law_1691 : decode cL_law 1691 = .ok (.iconst 2, 1) := by decide +kernel
theorem dL_law_1692 : decode cL_law 1692 = .ok (.iadd, 1) := by decide +kernel
theorem dL_law_1693 : decode cL_law 1693 = .ok (.iaload, 1) := by decide +kernel
theorem dL_law_1694 : decode cL_law 1694 = .ok (.aload_n 0, 1) := by decide +kernel
theorem dL_law_1695 : decode cL_law 1695 = .ok (.iload_n 3, 1) := by decide +kernel
theorem dL_law_1696 : decode cL_law 1696 = .ok (.iconst 3, 1) := by decide +kernel
theorem dL_law_1697 : decode cL_law 1697 = .ok (.iadd, 1) := by decide +kernel
theorem dL_law_1698 : decode cL_law 1698 = .ok (.iaload, 1) := by decide +kernel
theorem dL_law_1699 : decode cL_law 1699 = .ok (.invokevirtual 181, 3) := by decide +kernel
theorem dL_law_1702 : decode cL_law 1702 = .ok (.if_icmp .eq 61, 3) := by decide +kernel
theorem dL_law_1705 : decode cL_law 1705 = .ok (.iconst 0, 1) := by decide +kernel
theorem dL_law_1706 : decode cL_law 1706 = .ok (.ireturn, 1) := by decide +kernel
theorem dL_law_1707 : decode cL_law 1707 = .ok (.aload_n 1, 1) := by decide +kernel
theorem dL_law_1708 : decode cL_law 1708 = .ok (.aload_n 0, 1) := by decide +kernel
theorem dL_law_1709 : decode cL_law 1709 = .ok (.iload_n 3, 1) := by decide +kernel
theorem dL_law_1710 : decode cL_law 1710 = .ok (.iconst 1, 1) := by decide +kernel
theorem dL_law_1711 : decode cL_law 1711 = .ok (.iadd, 1) := by decide +kernel
theorem dL_law_1712 : decode cL_law 1712 = .ok (.iaload, 1) := by decide +kernel
theorem dL_law_1713 : decode cL_law 1713 = .ok (.aload_n 0, 1) := by decide +kernel
theorem dL_law_1714 : decode cL_law 1714 = .ok (.iload_n 3, 1) := by decide +kernel
theorem dL_law_1715 : decode cL_law 1715 = .ok (.iconst 2, 1) := by decide +kernel
theorem dL_law_1716 : decode cL_law 1716 = .ok (.iadd, 1) := by decide +kernel
theorem dL_law_1717 : decode cL_law 1717 = .ok (.iaload, 1) := by decide +kernel
theorem dL_law_1718 : decode cL_law 1718 = .ok (.invokevirtual 182, 3) := by decide +kernel
theorem dL_law_1721 : decode cL_law 1721 = .ok (.aload_n 2, 1) := by decide +kernel
theorem dL_law_1722 : decode cL_law 1722 = .ok (.aload_n 0, 1) := by decide +kernel
theorem dL_law_1723 : decode cL_law 1723 = .ok (.iload_n 3, 1) := by decide +kernel
theorem dL_law_1724 : decode cL_law 1724 = .ok (.iconst 1, 1) := by decide +kernel
theorem dL_law_1725 : decode cL_law 1725 = .ok (.iadd, 1) := by decide +kernel
theorem dL_law_1726 : decode cL_law 1726 = .ok (.iaload, 1) := by decide +kernel
theorem dL_law_1727 : decode cL_law 1727 = .ok (.aload_n 0, 1) := by decide +kernel
theorem dL_law_1728 : decode cL_law 1728 = .ok (.iload_n 3, 1) := by decide +kernel
theorem dL_law_1729 : decode cL_law 1729 = .ok (.iconst 2, 1) := by decide +kernel
theorem dL_law_1730 : decode cL_law 1730 = .ok (.iadd, 1) := by decide +kernel
theorem dL_law_1731 : decode cL_law 1731 = .ok (.iaload, 1) := by decide +kernel
theorem dL_law_1732 : decode cL_law 1732 = .ok (.invokevirtual 185, 3) := by decide +kernel
theorem dL_law_1735 : decode cL_law 1735 = .ok (.if_icmp .eq 28, 3) := by decide +kernel
theorem dL_law_1738 : decode cL_law 1738 = .ok (.iconst 0, 1) := by decide +kernel
theorem dL_law_1739 : decode cL_law 1739 = .ok (.ireturn, 1) := by decide +kernel
theorem dL_law_1740 : decode cL_law 1740 = .ok (.aload_n 1, 1) := by decide +kernel
theorem dL_law_1741 : decode cL_law 1741 = .ok (.aload_n 0, 1) := by decide +kernel
theorem dL_law_1742 : decode cL_law 1742 = .ok (.iload_n 3, 1) := by decide +kernel
theorem dL_law_1743 : decode cL_law 1743 = .ok (.iconst 1, 1) := by decide +kernel
theorem dL_law_1744 : decode cL_law 1744 = .ok (.iadd, 1) := by decide +kernel
theorem dL_law_1745 : decode cL_law 1745 = .ok (.iaload, 1) := by decide +kernel
theorem dL_law_1746 : decode cL_law 1746 = .ok (.invokevirtual 186, 3) := by decide +kernel
theorem dL_law_1749 : decode cL_law 1749 = .ok (.aload_n 2, 1) := by decide +kernel
theorem dL_law_1750 : decode cL_law 1750 = .ok (.aload_n 0, 1) := by decide +kernel
theorem dL_law_1751 : decode cL_law 1751 = .ok (.iload_n 3, 1) := by decide +kernel
theorem dL_law_1752 : decode cL_law 1752 = .ok (.iconst 1, 1) := by decide +kernel
theorem dL_law_1753 : decode cL_law 1753 = .ok (.iadd, 1) := by decide +kernel
theorem dL_law_1754 : decode cL_law 1754 = .ok (.iaload, 1) := by decide +kernel
theorem dL_law_1755 : decode cL_law 1755 = .ok (.invokevirtual 189, 3) := by decide +kernel
theorem dL_law_1758 : decode cL_law 1758 = .ok (.if_icmp .eq 5, 3) := by decide +kernel
theorem dL_law_1761 : decode cL_law 1761 = .ok (.iconst 0, 1) := by decide +kernel
theorem dL_law_1762 : decode cL_law 1762 = .ok (.ireturn, 1) := by decide +kernel
theorem dL_law_1763 : decode cL_law 1763 = .ok (.iinc 3 6, 3) := by decide +kernel
theorem dL_law_1766 : decode cL_law 1766 = .ok (.goto (-1748), 3) := by decide +kernel
theorem dL_law_1769 : decode cL_law 1769 = .ok (.iconst 1, 1) := by decide +kernel
theorem dL_law_1770 : decode cL_law 1770 = .ok (.ireturn, 1) := by decide +kernel
