set_option maxRecDepth 100000
theorem dX11_ticks_85 : decode cX11_ticks 85 = .ok (.getfield 152, 3) := by decide +kernel
theorem dX11_ticks_88 : decode cX11_ticks 88 = .ok (.ireturn, 1) := by decide +kernel
theorem dX11_in_0 : decode cX11_in 0 = .ok (.aload_n 0, 1) := by decide +kernel
theorem dX11_in_1 : decode cX11_in 1 = .ok (.iload_n 1, 1) := by decide +kernel
theorem dX11_in_2 : decode cX11_in 2 = .ok (.aload_n 0, 1) := by decide +kernel
theorem dX11_in_3 : decode cX11_in 3 = .ok (.getfield 10, 3) := by decide +kernel
theorem dX11_in_6 : decode cX11_in 6 = .ok (.getfield 103, 3) := by decide +kernel
theorem dX11_in_9 : decode cX11_in 9 = .ok (.invokestatic 99, 3) := by decide +kernel
theorem dX11_in_12 : decode cX11_in 12 = .ok (.ifCond .eq 11, 3) := by decide +kernel
theorem dX11_in_15 : decode cX11_in 15 = .ok (.iload_n 2, 1) := by decide +kernel
theorem dX11_in_16 : decode cX11_in 16 = .ok (.iconst 3, 1) := by decide +kernel
theorem dX11_in_17 : decode cX11_in 17 = .ok (.invokestatic 99, 3) := by decide +kernel
theorem dX11_in_20 : decode cX11_in 20 = .ok (.ifCond .ne 7, 3) := by decide +kernel
theorem dX11_in_23 : decode cX11_in 23 = .ok (.iconst 1, 1) := by decide +kernel
theorem dX11_in_24 : decode cX11_in 24 = .ok (.goto 4, 3) := by decide +kernel
theorem dX11_in_27 : decode cX11_in 27 = .ok (.iconst 0, 1) := by decide +kernel
theorem dX11_in_28 : decode cX11_in 28 = .ok (.iload_n 3, 1) := by decide +kernel
theorem dX11_in_29 : decode cX11_in 29 = .ok (.iconst 3, 1) := by decide +kernel
theorem dX11_in_30 : decode cX11_in 30 = .ok (.invokestatic 99, 3) := by decide +kernel
theorem dX11_in_33 : decode cX11_in 33 = .ok (.ifCond .ne 7, 3) := by decide +kernel
theorem dX11_in_36 : decode cX11_in 36 = .ok (.iconst 1, 1) := by decide +kernel
theorem dX11_in_37 : decode cX11_in 37 = .ok (.goto 4, 3) := by decide +kernel
theorem dX11_in_40 : decode cX11_in 40 = .ok (.iconst 0, 1) := by decide +kernel
theorem dX11_in_41 : decode cX11_in 41 = .ok (.iconst 0, 1) := by decide +kernel
theorem dX11_in_42 : decode cX11_in 42 = .ok (.iconst 0, 1) := by decide +kernel
theorem dX11_in_43 : decode cX11_in 43 = .ok (.invokevirtual 107, 3) := by decide +kernel
theorem dX11_in_46 : decode cX11_in 46 = .ok (.istore 4, 2) := by decide +kernel
theorem dX11_in_48 : decode cX11_in 48 = .ok (.iload 4, 2) := by decide +kernel
theorem dX11_in_50 : decode cX11_in 50 = .ok (.ifCond .eq 6, 3) := by decide +kernel
theorem dX11_in_53 : decode cX11_in 53 = .ok (.iload 4, 2) := by decide +kernel
theorem dX11_in_55 : decode cX11_in 55 = .ok (.ireturn, 1) := by decide +kernel
theorem dX11_in_56 : decode cX11_in 56 = .ok (.iload_n 3, 1) := by decide +kernel
theorem dX11_in_57 : decode cX11_in 57 = .ok (.iconst 2, 1) := by decide +kernel
theorem dX11_in_58 : decode cX11_in 58 = .ok (.if_icmp .ne 18, 3) := by decide +kernel
theorem dX11_in_61 : decode cX11_in 61 = .ok (.aload_n 0, 1) := by decide +kernel
theorem dX11_in_62 : decode cX11_in 62 = .ok (.getfield 19, 3) := by decide +kernel
theorem dX11_in_65 : decode cX11_in 65 = .ok (.aload_n 0, 1) := by decide +kernel
theorem dX11_in_66 : decode cX11_in 66 = .ok (.getfield 10, 3) := by decide +kernel
theorem dX11_in_69 : decode cX11_in 69 = .ok (.iload_n 1, 1) := by decide +kernel
theorem dX11_in_70 : decode cX11_in 70 = .ok (.invokevirtual 158, 3) := by decide +kernel
theorem dX11_in_73 : decode cX11_in 73 = .ok (.goto 22, 3) := by decide +kernel
theorem dX11_in_76 : decode cX11_in 76 = .ok (.aload_n 0, 1) := by decide +kernel
theorem dX11_in_77 : decode cX11_in 77 = .ok (.getfield 19, 3) := by decide +kernel
theorem dX11_in_80 : decode cX11_in 80 = .ok (.iload_n 1, 1) := by decide +kernel
theorem dX11_in_81 : decode cX11_in 81 = .ok (.iload_n 2, 1) := by decide +kernel
theorem dX11_in_82 : decode cX11_in 82 = .ok (.iload_n 3, 1) := by decide +kernel
theorem dX11_in_83 : decode cX11_in 83 = .ok (.iconst 1, 1) := by decide +kernel
theorem dX11_in_84 : decode cX11_in 84 = .ok (.if_icmp .ne 7, 3) := by decide +kernel
theorem dX11_in_87 : decode cX11_in 87 = .ok (.iconst 1, 1) := by decide +kernel
theorem dX11_in_88 : decode cX11_in 88 = .ok (.goto 4, 3) := by decide +kernel
theorem dX11_in_91 : decode cX11_in 91 = .ok (.iconst 0, 1) := by decide +kernel
theorem dX11_in_92 : decode cX11_in 92 = .ok (.invokevirtual 121, 3) := by decide +kernel
theorem dX11_in_95 : decode cX11_in 95 = .ok (.ireturn, 1) := by decide +kernel
theorem dX11_pumpOf_0 : decode cX11_pumpOf 0 = .ok (.aload_n 0, 1) := by decide +kernel
theorem dX11_pumpOf_1 : decode cX11_pumpOf 1 = .ok (.iload_n 1, 1) := by decide +kernel
theorem dX11_pumpOf_2 : decode cX11_pumpOf 2 = .ok (.aload_n 0, 1) := by decide +kernel
theorem dX11_pumpOf_3 : decode cX11_pumpOf 3 = .ok (.getfield 10, 3) := by decide +kernel
theorem dX11_pumpOf_6 : decode cX11_pumpOf 6 = .ok (.getfield 142, 3) := by decide +kernel
theorem dX11_pumpOf_9 : decode cX11_pumpOf 9 = .ok (.invokestatic 99, 3) := by decide +kernel
theorem dX11_pumpOf_12 : decode cX11_pumpOf 12 = .ok (.ifCond .ne 7, 3) := by decide +kernel
theorem dX11_pumpOf_15 : decode cX11_pumpOf 15 = .ok (.iconst 1, 1) := by decide +kernel
theorem dX11_pumpOf_16 : decode cX11_pumpOf 16 = .ok (.goto 4, 3) := by decide +kernel
theorem dX11_pumpOf_19 : decode cX11_pumpOf 19 = .ok (.iconst 0, 1) := by decide +kernel
theorem dX11_pumpOf_20 : decode cX11_pumpOf 20 = .ok (.iload_n 2, 1) := by decide +kernel
theorem dX11_pumpOf_21 : decode cX11_pumpOf 21 = .ok (.bipush 6, 2) := by decide +kernel
theorem dX11_pumpOf_23 : decode cX11_pumpOf 23 = .ok (.invokestatic 99, 3) := by decide +kernel
theorem dX11_pumpOf_26 : decode cX11_pumpOf 26 = .ok (.ifCond .ne 7, 3) := by decide +kernel
theorem dX11_pumpOf_29 : decode cX11_pumpOf 29 = .ok (.iconst 1, 1) := by decide +kernel
theorem dX11_pumpOf_30 : decode cX11_pumpOf 30 = .ok (.goto 4, 3) := by decide +kernel
theorem dX11_pumpOf_33 : decode cX11_pumpOf 33 = .ok (.iconst 0, 1) := by decide +kernel
theorem dX11_pumpOf_34 : decode cX11_pumpOf 34 = .ok (.iconst 0, 1) := by decide +kernel
theorem dX11_pumpOf_35 : decode cX11_pumpOf 35 = .ok (.iconst 0, 1) := by decide +kernel
theorem dX11_pumpOf_36 : decode cX11_pumpOf 36 = .ok (.invokevirtual 107, 3) := by decide +kernel
theorem dX11_pumpOf_39 : decode cX11_pumpOf 39 = .ok (.istore_n 3, 1) := by decide +kernel
theorem dX11_pumpOf_40 : decode cX11_pumpOf 40 = .ok (.iload_n 3, 1) := by decide +kernel
theorem dX11_pumpOf_41 : decode cX11_pumpOf 41 = .ok (.ifCond .eq 5, 3) := by decide +kernel
theorem dX11_pumpOf_44 : decode cX11_pumpOf 44 = .ok (.iload_n 3, 1) := by decide +kernel
theorem dX11_pumpOf_45 : decode cX11_pumpOf 45 = .ok (.ireturn, 1) := by decide +kernel
theorem dX11_pumpOf_46 : decode cX11_pumpOf 46 = .ok (.iload_n 2, 1) := by decide +kernel
theorem dX11_pumpOf_47 : decode cX11_pumpOf 47 = .ok (.ifCond .ne 15, 3) := by decide +kernel
theorem dX11_pumpOf_50 : decode cX11_pumpOf 50 = .ok (.aload_n 0, 1) := by decide +kernel
theorem dX11_pumpOf_51 : decode cX11_pumpOf 51 = .ok (.getfield 10, 3) := by decide +kernel
theorem dX11_pumpOf_54 : decode cX11_pumpOf 54 = .ok (.getfield 162, 3) := by decide +kernel
theorem dX11_pumpOf_57 : decode cX11_pumpOf 57 = .ok (.iload_n 1, 1) := by decide +kernel
theorem dX11_pumpOf_58 : decode cX11_pumpOf 58 = .ok (.ishr, 1) := by decide +kernel
theorem dX11_pumpOf_59 : decode cX11_pumpOf 59 = .ok (.iconst 1, 1) := by decide +kernel
theorem dX11_pumpOf_60 : decode cX11_pumpOf 60 = .ok (.iand, 1) := by decide +kernel
theorem dX11_pumpOf_61 : decode cX11_pumpOf 61 = .ok (.ireturn, 1) := by decide +kernel
theorem dX11_pumpOf_62 : decode cX11_pumpOf 62 = .ok (.iload_n 2, 1) := by decide +kernel
theorem dX11_pumpOf_63 : decode cX11_pumpOf 63 = .ok (.iconst 4, 1) := by decide +kernel
theorem dX11_pumpOf_64 : decode cX11_pumpOf 64 = .ok (.if_icmp .ne 15, 3) := by decide +kernel
theorem dX11_pumpOf_67 : decode cX11_pumpOf 67 = .ok (.aload_n 0, 1) := by decide +kernel
theorem dX11_pumpOf_68 : decode cX11_pumpOf 68 = .ok (.getfield 19, 3) := by decide +kernel
theorem dX11_pumpOf_71 : decode cX11_pumpOf 71 = .ok (.getfield 165, 3) := by decide +kernel
theorem dX11_pumpOf_74 : decode cX11_pumpOf 74 = .ok (.iload_n 1, 1) := by decide +kernel
theorem dX11_pumpOf_75 : decode cX11_pumpOf 75 = .ok (.ishr, 1) := by decide +kernel
theorem dX11_pumpOf_76 : decode cX11_pumpOf 76 = .ok (.iconst 1, 1) := by decide +kernel
theorem dX11_pumpOf_77 : decode cX11_pumpOf 77 = .ok (.iand, 1) := by decide +kernel
theorem dX11_pumpOf_78 : decode cX11_pumpOf 78 = .ok (.ireturn, 1) := by decide +kernel
theorem dX11_pumpOf_79 : decode cX11_pumpOf 79 = .ok (.iload_n 2, 1) := by decide +kernel
theorem dX11_pumpOf_80 : decode cX11_pumpOf 80 = .ok (.iconst 5, 1) := by decide +kernel
theorem dX11_pumpOf_81 : decode cX11_pumpOf 81 = .ok (.if_icmp .ne 15, 3) := by decide +kernel
theorem dX11_pumpOf_84 : decode cX11_pumpOf 84 = .ok (.aload_n 0, 1) := by decide +kernel
theorem dX11_pumpOf_85 : decode cX11_pumpOf 85 = .ok (.getfield 10, 3) := by decide +kernel
theorem dX11_pumpOf_88 : decode cX11_pumpOf 88 = .ok (.getfield 168, 3) := by decide +kernel
theorem dX11_pumpOf_91 : decode cX11_pumpOf 91 = .ok (.iload_n 1, 1) := by decide +kernel
theorem dX11_pumpOf_92 : decode cX11_pumpOf 92 = .ok (.iaload, 1) := by decide +kernel
theorem dX11_pumpOf_93 : decode cX11_pumpOf 93 = .ok (.goto 18, 3) := by decide +kernel
theorem dX11_pumpOf_96 : decode cX11_pumpOf 96 = .ok (.aload_n 0, 1) := by decide +kernel
theorem dX11_pumpOf_97 : decode cX11_pumpOf 97 = .ok (.getfield 19, 3) := by decide +kernel
theorem dX11_pumpOf_100 : decode cX11_pumpOf 100 = .ok (.getfield 171, 3) := by decide +kernel
theorem dX11_pumpOf_103 : decode cX11_pumpOf 103 = .ok (.iload_n 1, 1) := by decide +kernel
theorem dX11_pumpOf_104 : decode cX11_pumpOf 104 = .ok (.iconst 3, 1) := by decide +kernel
theorem dX11_pumpOf_105 : decode cX11_pumpOf 105 = .ok (.imul, 1) := by decide +kernel
theorem dX11_pumpOf_106 : decode cX11_pumpOf 106 = .ok (.iload_n 2, 1) := by decide +kernel
theorem dX11_pumpOf_107 : decode cX11_pumpOf 107 = .ok (.iadd, 1) := by decide +kernel
theorem dX11_pumpOf_108 : decode cX11_pumpOf 108 = .ok (.iconst 1, 1) := by decide +kernel
theorem dX11_pumpOf_109 : decode cX11_pumpOf 109 = .ok (.isub, 1) := by decide +kernel
theorem dX11_pumpOf_110 : decode cX11_pumpOf 110 = .ok (.iaload, 1) := by decide +kernel
theorem dX11_pumpOf_111 : decode cX11_pumpOf 111 = .ok (.ireturn, 1) := by decide +kernel
theorem dX11_all_0 : decode cX11_all 0 = .ok (.aload_n 0, 1) := by decide +kernel
theorem dX11_all_1 : decode cX11_all 1 = .ok (.iload_n 1, 1) := by decide +kernel
theorem dX11_all_2 : decode cX11_all 2 = .ok (.iconst 3, 1) := by decide +kernel
theorem dX11_all_3 : decode cX11_all 3 = .ok (.invokestatic 99, 3) := by decide +kernel
theorem dX11_all_6 : decode cX11_all 6 = .ok (.ifCond .ne 7, 3) := by decide +kernel
theorem dX11_all_9 : decode cX11_all 9 = .ok (.iconst 1, 1) := by decide +kernel
theorem dX11_all_10 : decode cX11_all 10 = .ok (.goto 4, 3) := by decide +kernel
theorem dX11_all_13 : decode cX11_all 13 = .ok (.iconst 0, 1) := by decide +kernel
theorem dX11_all_14 : decode cX11_all 14 = .ok (.iload_n 2, 1) := by decide +kernel
theorem dX11_all_15 : decode cX11_all 15 = .ok (.iconst 5, 1) := by decide +kernel
theorem dX11_all_16 : decode cX11_all 16 = .ok (.invokestatic 99, 3) := by decide +kernel
theorem dX11_all_19 : decode cX11_all 19 = .ok (.ifCond .ne 7, 3) := by decide +kernel
theorem dX11_all_22 : decode cX11_all 22 = .ok (.iconst 1, 1) := by decide +kernel
theorem dX11_all_23 : decode cX11_all 23 = .ok (.goto 4, 3) := by decide +kernel
theorem dX11_all_26 : decode cX11_all 26 = .ok (.iconst 0, 1) := by decide +kernel
theorem dX11_all_27 : decode cX11_all 27 = .ok (.iconst 0, 1) := by decide +kernel
theorem dX11_all_28 : decode cX11_all 28 = .ok (.iconst 0, 1) := by decide +kernel
theorem dX11_all_29 : decode cX11_all 29 = .ok (.invokevirtual 107, 3) := by decide +kernel
theorem dX11_all_32 : decode cX11_all 32 = .ok (.istore_n 3, 1) := by decide +kernel
theorem dX11_all_33 : decode cX11_all 33 = .ok (.iload_n 3, 1) := by decide +kernel
theorem dX11_all_34 : decode cX11_all 34 = .ok (.ifCond .eq 7, 3) := by decide +kernel
theorem dX11_all_37 : decode cX11_all 37 = .ok (.iload_n 3, 1) := by decide +kernel
theorem dX11_all_38 : decode cX11_all 38 = .ok (.goto 16, 3) := by decide +kernel
theorem dX11_all_41 : decode cX11_all 41 = .ok (.aload_n 0, 1) := by decide +kernel
theorem dX11_all_42 : decode cX11_all 42 = .ok (.getfield 19, 3) := by decide +kernel
theorem dX11_all_45 : decode cX11_all 45 = .ok (.aload_n 0, 1) := by decide +kernel
theorem dX11_all_46 : decode cX11_all 46 = .ok (.getfield 10, 3) := by decide +kernel
theorem dX11_all_49 : decode cX11_all 49 = .ok (.iload_n 1, 1) := by decide +kernel
theorem dX11_all_50 : decode cX11_all 50 = .ok (.iload_n 2, 1) := by decide +kernel
theorem dX11_all_51 : decode cX11_all 51 = .ok (.invokevirtual 174, 3) := by decide +kernel
theorem dX11_all_54 : decode cX11_all 54 = .ok (.ireturn, 1) := by decide +kernel
theorem dX11_when_0 : decode cX11_when 0 = .ok (.aload_n 0, 1) := by decide +kernel
theorem dX11_when_1 : decode cX11_when 1 = .ok (.iload_n 1, 1) := by decide +kernel
theorem dX11_when_2 : decode cX11_when 2 = .ok (.aload_n 0, 1) := by decide +kernel
theorem dX11_when_3 : decode cX11_when 3 = .ok (.getfield 10, 3) := by decide +kernel
theorem dX11_when_6 : decode cX11_when 6 = .ok (.getfield 103, 3) := by decide +kernel
theorem dX11_when_9 : decode cX11_when 9 = .ok (.invokestatic 99, 3) := by decide +kernel
theorem dX11_when_12 : decode cX11_when 12 = .ok (.ifCond .ne 7, 3) := by decide +kernel
theorem dX11_when_15 : decode cX11_when 15 = .ok (.iconst 1, 1) := by decide +kernel
theorem dX11_when_16 : decode cX11_when 16 = .ok (.goto 4, 3) := by decide +kernel
theorem dX11_when_19 : decode cX11_when 19 = .ok (.iconst 0, 1) := by decide +kernel
theorem dX11_when_20 : decode cX11_when 20 = .ok (.iconst 0, 1) := by decide +kernel
theorem dX11_when_21 : decode cX11_when 21 = .ok (.iload_n 2, 1) := by decide +kernel
theorem dX11_when_22 : decode cX11_when 22 = .ok (.ifCond .lt 8, 3) := by decide +kernel
theorem dX11_when_25 : decode cX11_when 25 = .ok (.iload_n 3, 1) := by decide +kernel
theorem dX11_when_26 : decode cX11_when 26 = .ok (.iconst 1, 1) := by decide +kernel
theorem dX11_when_27 : decode cX11_when 27 = .ok (.if_icmp .ge 7, 3) := by decide +kernel
theorem dX11_when_30 : decode cX11_when 30 = .ok (.iconst 1, 1) := by decide +kernel
theorem dX11_when_31 : decode cX11_when 31 = .ok (.goto 4, 3) := by decide +kernel
theorem dX11_when_34 : decode cX11_when 34 = .ok (.iconst 0, 1) := by decide +kernel
theorem dX11_when_35 : decode cX11_when 35 = .ok (.iload_n 2, 1) := by decide +kernel
theorem dX11_when_36 : decode cX11_when 36 = .ok (.ldc 178, 2) := by decide +kernel
theorem dX11_when_38 : decode cX11_when 38 = .ok (.if_icmp .gt 10, 3) := by decide +kernel
theorem dX11_when_41 : decode cX11_when 41 = .ok (.iload_n 3, 1) := by decide +kernel
theorem dX11_when_42 : decode cX11_when 42 = .ok (.sipush 300, 3) := by decide +kernel
theorem dX11_when_45 : decode cX11_when 45 = .ok (.if_icmp .le 7, 3) := by decide +kernel
theorem dX11_when_48 : decode cX11_when 48 = .ok (.iconst 1, 1) := by decide +kernel
theorem dX11_when_49 : decode cX11_when 49 = .ok (.goto 4, 3) := by decide +kernel
theorem dX11_when_52 : decode cX11_when 52 = .ok (.iconst 0, 1) := by decide +kernel
theorem dX11_when_53 : decode cX11_when 53 = .ok (.invokevirtual 107, 3) := by decide +kernel
theorem dX11_when_56 : decode cX11_when 56 = .ok (.istore 4, 2) := by decide +kernel
theorem dX11_when_58 : decode cX11_when 58 = .ok (.iload 4, 2) := by decide +kernel
theorem dX11_when_60 : decode cX11_when 60 = .ok (.ifCond .eq 6, 3) := by decide +kernel
theorem dX11_when_63 : decode cX11_when 63 = .ok (.iload 4, 2) := by decide +kernel
theorem dX11_when_65 : decode cX11_when 65 = .ok (.ireturn, 1) := by decide +kernel
theorem dX11_when_66 : decode cX11_when 66 = .ok (.aload_n 0, 1) := by decide +kernel
theorem dX11_when_67 : decode cX11_when 67 = .ok (.getfield 23, 3) := by decide +kernel
theorem dX11_when_70 : decode cX11_when 70 = .ok (.aload_n 0, 1) := by decide +kernel
theorem dX11_when_71 : decode cX11_when 71 = .ok (.getfield 19, 3) := by decide +kernel
theorem dX11_when_74 : decode cX11_when 74 = .ok (.invokevirtual 179, 3) := by decide +kernel
theorem dX11_when_77 : decode cX11_when 77 = .ok (.iconst 0, 1) := by decide +kernel
theorem dX11_when_78 : decode cX11_when 78 = .ok (.istore 5, 2) := by decide +kernel
theorem dX11_when_80 : decode cX11_when 80 = .ok (.iload 5, 2) := by decide +kernel
theorem dX11_when_82 : decode cX11_when 82 = .ok (.iload_n 3, 1) := by decide +kernel
theorem dX11_when_83 : decode cX11_when 83 = .ok (.if_icmp .ge 57, 3) := by decide +kernel
theorem dX11_when_86 : decode cX11_when 86 = .ok (.aload_n 0, 1) := by decide +kernel
theorem dX11_when_87 : decode cX11_when 87 = .ok (.getfield 23, 3) := by decide +kernel
theorem dX11_when_90 : decode cX11_when 90 = .ok (.getfield 152, 3) := by decide +kernel
theorem dX11_when_93 : decode cX11_when 93 = .ok (.sipush 5000, 3) := by decide +kernel
theorem dX11_when_96 : decode cX11_when 96 = .ok (.if_icmp .ge 44, 3) := by decide +kernel
theorem dX11_when_99 : decode cX11_when 99 = .ok (.aload_n 0, 1) := by decide +kernel
theorem dX11_when_100 : decode cX11_when 100 = .ok (.getfield 23, 3) := by decide +kernel
theorem dX11_when_103 : decode cX11_when 103 = .ok (.aload_n 0, 1) := by decide +kernel
theorem dX11_when_104 : decode cX11_when 104 = .ok (.getfield 10, 3) := by decide +kernel
theorem dX11_when_107 : decode cX11_when 107 = .ok (.invokevirtual 155, 3) := by decide +kernel
theorem dX11_when_110 : decode cX11_when 110 = .ok (.aload_n 0, 1) := by decide +kernel
theorem dX11_when_111 : decode cX11_when 111 = .ok (.getfield 23, 3) := by decide +kernel
theorem dX11_when_114 : decode cX11_when 114 = .ok (.aload_n 0, 1) := by decide +kernel
theorem dX11_when_115 : decode cX11_when 115 = .ok (.getfield 10, 3) := by decide +kernel
theorem dX11_when_118 : decode cX11_when 118 = .ok (.iload_n 1, 1) := by decide +kernel
theorem dX11_when_119 : decode cX11_when 119 = .ok (.invokevirtual 158, 3) := by decide +kernel
theorem dX11_when_122 : decode cX11_when 122 = .ok (.iload_n 2, 1) := by decide +kernel
theorem dX11_when_123 : decode cX11_when 123 = .ok (.if_icmp .ge 11, 3) := by decide +kernel
theorem dX11_when_126 : decode cX11_when 126 = .ok (.aload_n 0, 1) := by decide +kernel
theorem dX11_when_127 : decode cX11_when 127 = .ok (.getfield 23, 3) := by decide +kernel
theorem dX11_when_130 : decode cX11_when 130 = .ok (.getfield 152, 3) := by decide +kernel
theorem dX11_when_133 : decode cX11_when 133 = .ok (.ireturn, 1) := by decide +kernel
theorem dX11_when_134 : decode cX11_when 134 = .ok (.iinc 5 1, 3) := by decide +kernel
theorem dX11_when_137 : decode cX11_when 137 = .ok (.goto (-57), 3) := by decide +kernel
theorem dX11_when_140 : decode cX11_when 140 = .ok (.bipush (-9), 2) := by decide +kernel
theorem dX11_when_142 : decode cX11_when 142 = .ok (.ireturn, 1) := by decide +kernel
theorem dX11_feed_0 : decode cX11_feed 0 = .ok (.aload_n 0, 1) := by decide +kernel
theorem dX11_feed_1 : decode cX11_feed 1 = .ok (.iconst 0, 1) := by decide +kernel
theorem dX11_feed_2 : decode cX11_feed 2 = .ok (.iconst 0, 1) := by decide +kernel
theorem dX11_feed_3 : decode cX11_feed 3 = .ok (.iload_n 1, 1) := by decide +kernel
theorem dX11_feed_4 : decode cX11_feed 4 = .ok (.iconst 1, 1) := by decide +kernel
theorem dX11_feed_5 : decode cX11_feed 5 = .ok (.if_icmp .ge 7, 3) := by decide +kernel
theorem dX11_feed_8 : decode cX11_feed 8 = .ok (.iconst 1, 1) := by decide +kernel
theorem dX11_feed_9 : decode cX11_feed 9 = .ok (.goto 4, 3) := by decide +kernel
theorem dX11_feed_12 : decode cX11_feed 12 = .ok (.iconst 0, 1) := by decide +kernel
theorem dX11_feed_13 : decode cX11_feed 13 = .ok (.iload_n 1, 1) := by decide +kernel
theorem dX11_feed_14 : decode cX11_feed 14 = .ok (.bipush 8, 2) := by decide +kernel
theorem dX11_feed_16 : decode cX11_feed 16 = .ok (.if_icmp .gt 17, 3) := by decide +kernel
theorem dX11_feed_19 : decode cX11_feed 19 = .ok (.iload_n 1, 1) := by decide +kernel
theorem dX11_feed_20 : decode cX11_feed 20 = .ok (.bipush 40, 2) := by decide +kernel
theorem dX11_feed_22 : decode cX11_feed 22 = .ok (.aload_n 0, 1) := by decide +kernel
theorem dX11_feed_23 : decode cX11_feed 23 = .ok (.getfield 36, 3) := by decide +kernel
theorem dX11_feed_26 : decode cX11_feed 26 = .ok (.getfield 183, 3) := by decide +kernel
theorem dX11_feed_29 : decode cX11_feed 29 = .ok (.isub, 1) := by decide +kernel
theorem dX11_feed_30 : decode cX11_feed 30 = .ok (.if_icmp .le 7, 3) := by decide +kernel
theorem dX11_feed_33 : decode cX11_feed 33 = .ok (.iconst 1, 1) := by decide +kernel
theorem dX11_feed_34 : decode cX11_feed 34 = .ok (.goto 4, 3) := by decide +kernel
theorem dX11_feed_37 : decode cX11_feed 37 = .ok (.iconst 0, 1) := by decide +kernel
theorem dX11_feed_38 : decode cX11_feed 38 = .ok (.invokevirtual 107, 3) := by decide +kernel
theorem dX11_feed_41 : decode cX11_feed 41 = .ok (.istore 4, 2) := by decide +kernel
theorem dX11_feed_43 : decode cX11_feed 43 = .ok (.iload 4, 2) := by decide +kernel
theorem dX11_feed_45 : decode cX11_feed 45 = .ok (.ifCond .eq 8, 3) := by decide +kernel
theorem dX11_feed_48 : decode cX11_feed 48 = .ok (.iload 4, 2) := by decide +kernel
theorem dX11_feed_50 : decode cX11_feed 50 = .ok (.goto 12, 3) := by decide +kernel
theorem dX11_feed_53 : decode cX11_feed 53 = .ok (.aload_n 0, 1) := by decide +kernel
theorem dX11_feed_54 : decode cX11_feed 54 = .ok (.getfield 36, 3) := by decide +kernel
theorem dX11_feed_57 : decode cX11_feed 57 = .ok (.iload_n 1, 1) := by decide +kernel
theorem dX11_feed_58 : decode cX11_feed 58 = .ok (.lload_n 2, 1) := by decide +kernel
theorem dX11_feed_59 : decode cX11_feed 59 = .ok (.invokevirtual 186, 3) := by decide +kernel
theorem dX11_feed_62 : decode cX11_feed 62 = .ok (.ireturn, 1) := by decide +kernel
theorem dX11_rule_0 : decode cX11_rule 0 = .ok (.aload_n 0, 1) := by decide +kernel
theorem dX11_rule_1 : decode cX11_rule 1 = .ok (.getfield 45, 3) := by decide +kernel
theorem dX11_rule_4 : decode cX11_rule 4 = .ok (.getfield 190, 3) := by decide +kernel
theorem dX11_rule_7 : decode cX11_rule 7 = .ok (.bipush 16, 2) := by decide +kernel
theorem dX11_rule_9 : decode cX11_rule 9 = .ok (.if_icmp .lt 10, 3) := by decide +kernel
theorem dX11_rule_12 : decode cX11_rule 12 = .ok (.aload_n 0, 1) := by decide +kernel
theorem dX11_rule_13 : decode cX11_rule 13 = .ok (.bipush (-6), 2) := by decide +kernel
theorem dX11_rule_15 : decode cX11_rule 15 = .ok (.invokevirtual 193, 3) := by decide +kernel
theorem dX11_rule_18 : decode cX11_rule 18 = .ok (.ireturn, 1) := by decide +kernel
theorem dX11_rule_19 : decode cX11_rule 19 = .ok (.aload_n 0, 1) := by decide +kernel
theorem dX11_rule_20 : decode cX11_rule 20 = .ok (.getfield 36, 3) := by decide +kernel
theorem dX11_rule_23 : decode cX11_rule 23 = .ok (.invokevirtual 197, 3) := by decide +kernel
theorem dX11_rule_26 : decode cX11_rule 26 = .ok (.istore_n 1, 1) := by decide +kernel
theorem dX11_rule_27 : decode cX11_rule 27 = .ok (.aload_n 0, 1) := by decide +kernel
theorem dX11_rule_28 : decode cX11_rule 28 = .ok (.getfield 36, 3) := by decide +kernel
theorem dX11_rule_31 : decode cX11_rule 31 = .ok (.getfield 201, 3) := by decide +kernel
theorem dX11_rule_34 : decode cX11_rule 34 = .ok (.istore_n 2, 1) := by decide +kernel
theorem dX11_rule_35 : decode cX11_rule 35 = .ok (.aload_n 0, 1) := by decide +kernel
theorem dX11_rule_36 : decode cX11_rule 36 = .ok (.getfield 36, 3) := by decide +kernel
theorem dX11_rule_39 : decode cX11_rule 39 = .ok (.iconst 0, 1) := by decide +kernel
theorem dX11_rule_40 : decode cX11_rule 40 = .ok (.putfield 183, 3) := by decide +kernel
theorem dX11_rule_43 : decode cX11_rule 43 = .ok (.iload_n 1, 1) := by decide +kernel
theorem dX11_rule_44 : decode cX11_rule 44 = .ok (.ifCond .eq 17, 3) := by decide +kernel
theorem dX11_rule_47 : decode cX11_rule 47 = .ok (.aload_n 0, 1) := by decide +kernel
theorem dX11_rule_48 : decode cX11_rule 48 = .ok (.getfield 45, 3) := by decide +kernel
theorem dX11_rule_51 : decode cX11_rule 51 = .ok (.aload_n 0, 1) := by decide +kernel
theorem dX11_rule_52 : decode cX11_rule 52 = .ok (.getfield 36, 3) := by decide +kernel
theorem dX11_rule_55 : decode cX11_rule 55 = .ok (.invokevirtual 204, 3) := by decide +kernel
theorem dX11_rule_58 : decode cX11_rule 58 = .ok (.goto 7, 3) := by decide +kernel
theorem dX11_rule_61 : decode cX11_rule 61 = .ok (.bipush (-20), 2) := by decide +kernel
theorem dX11_rule_63 : decode cX11_rule 63 = .ok (.iload_n 2, 1) := by decide +kernel
theorem dX11_rule_64 : decode cX11_rule 64 = .ok (.isub, 1) := by decide +kernel
theorem dX11_rule_65 : decode cX11_rule 65 = .ok (.ireturn, 1) := by decide +kernel
theorem dX11_unrule_0 : decode cX11_unrule 0 = .ok (.iload_n 1, 1) := by decide +kernel
theorem dX11_unrule_1 : decode cX11_unrule 1 = .ok (.aload_n 0, 1) := by decide +kernel
theorem dX11_unrule_2 : decode cX11_unrule 2 = .ok (.getfield 45, 3) := by decide +kernel
theorem dX11_unrule_5 : decode cX11_unrule 5 = .ok (.getfield 190, 3) := by decide +kernel
theorem dX11_unrule_8 : decode cX11_unrule 8 = .ok (.invokestatic 99, 3) := by decide +kernel
theorem dX11_unrule_11 : decode cX11_unrule 11 = .ok (.ifCond .eq 14, 3) := by decide +kernel
theorem dX11_unrule_14 : decode cX11_unrule 14 = .ok (.aload_n 0, 1) := by decide +kernel
theorem dX11_unrule_15 : decode cX11_unrule 15 = .ok (.getfield 45, 3) := by decide +kernel
theorem dX11_unrule_18 : decode cX11_unrule 18 = .ok (.iload_n 1, 1) := by decide +kernel
theorem dX11_unrule_19 : decode cX11_unrule 19 = .ok (.invokevirtual 208, 3) := by decide +kernel
theorem dX11_unrule_22 : decode cX11_unrule 22 = .ok (.ifCond .ne 9, 3) := by decide +kernel
theorem dX11_unrule_25 : decode cX11_unrule 25 = .ok (.aload_n 0, 1) := by decide +kernel
theorem dX11_unrule_26 : decode cX11_unrule 26 = .ok (.iconst (-1), 1) := by decide +kernel
theorem dX11_unrule_27 : decode cX11_unrule 27 = .ok (.invokevirtual 193, 3) := by decide +kernel
theorem dX11_unrule_30 : decode cX11_unrule 30 = .ok (.ireturn, 1) := by decide +kernel
theorem dX11_unrule_31 : decode cX11_unrule 31 = .ok (.aload_n 0, 1) := by decide +kernel
theorem dX11_unrule_32 : decode cX11_unrule 32 = .ok (.getfield 45, 3) := by decide +kernel
theorem dX11_unrule_35 : decode cX11_unrule 35 = .ok (.iload_n 1, 1) := by decide +kernel
theorem dX11_unrule_36 : decode cX11_unrule 36 = .ok (.invokevirtual 212, 3) := by decide +kernel
theorem dX11_unrule_39 : decode cX11_unrule 39 = .ok (.iconst 1, 1) := by decide +kernel
theorem dX11_unrule_40 : decode cX11_unrule 40 = .ok (.ireturn, 1) := by decide +kernel
theorem dX11_forbids_0 : decode cX11_forbids 0 = .ok (.iload_n 1, 1) := by decide +kernel
theorem dX11_forbids_1 : decode cX11_forbids 1 = .ok (.iload_n 2, 1) := by decide +kernel
theorem dX11_forbids_2 : decode cX11_forbids 2 = .ok (.ifCond .eq 13, 3) := by decide +kernel
theorem dX11_forbids_5 : decode cX11_forbids 5 = .ok (.aload_n 0, 1) := by decide +kernel
theorem dX11_forbids_6 : decode cX11_forbids 6 = .ok (.getfield 10, 3) := by decide +kernel
theorem dX11_forbids_9 : decode cX11_forbids 9 = .ok (.getfield 142, 3) := by decide +kernel
theorem dX11_forbids_12 : decode cX11_forbids 12 = .ok (.goto 10, 3) := by decide +kernel
theorem dX11_forbids_15 : decode cX11_forbids 15 = .ok (.aload_n 0, 1) := by decide +kernel
theorem dX11_forbids_16 : decode cX11_forbids 16 = .ok (.getfield 10, 3) := by decide +kernel
theorem dX11_forbids_19 : decode cX11_forbids 19 = .ok (.getfield 135, 3) := by decide +kernel
theorem dX11_forbids_22 : decode cX11_forbids 22 = .ok (.invokestatic 99, 3) := by decide +kernel
theorem dX11_forbids_25 : decode cX11_forbids 25 = .ok (.ifCond .ne 9, 3) := by decide +kernel
theorem dX11_forbids_28 : decode cX11_forbids 28 = .ok (.aload_n 0, 1) := by decide +kernel
theorem dX11_forbids_29 : decode cX11_forbids 29 = .ok (.iconst (-1), 1) := by decide +kernel
theorem dX11_forbids_30 : decode cX11_forbids 30 = .ok (.invokevirtual 193, 3) := by decide +kernel
theorem dX11_forbids_33 : decode cX11_forbids 33 = .ok (.ireturn, 1) := by decide +kernel
theorem dX11_forbids_34 : decode cX11_forbids 34 = .ok (.aload_n 0, 1) := by decide +kernel
theorem dX11_forbids_35 : decode cX11_forbids 35 = .ok (.getfield 45, 3) := by decide +kernel
theorem dX11_forbids_38 : decode cX11_forbids 38 = .ok (.iload_n 1, 1) := by decide +kernel
theorem dX11_forbids_39 : decode cX11_forbids 39 = .ok (.iload_n 2, 1) := by decide +kernel
theorem dX11_forbids_40 : decode cX11_forbids 40 = .ok (.aload_n 0, 1) := by decide +kernel
theorem dX11_forbids_41 : decode cX11_forbids 41 = .ok (.getfield 10, 3) := by decide +kernel
theorem dX11_forbids_44 : decode cX11_forbids 44 = .ok (.getfield 162, 3) := by decide +kernel
theorem dX11_forbids_47 : decode cX11_forbids 47 = .ok (.invokevirtual 216, 3) := by decide +kernel
theorem dX11_forbids_50 : decode cX11_forbids 50 = .ok (.ireturn, 1) := by decide +kernel
theorem dX11_valve_0 : decode cX11_valve 0 = .ok (.iload_n 1, 1) := by decide +kernel
theorem dX11_valve_1 : decode cX11_valve 1 = .ok (.aload_n 0, 1) := by decide +kernel
theorem dX11_valve_2 : decode cX11_valve 2 = .ok (.getfield 10, 3) := by decide +kernel
theorem dX11_valve_5 : decode cX11_valve 5 = .ok (.getfield 135, 3) := by decide +kernel
theorem dX11_valve_8 : decode cX11_valve 8 = .ok (.invokestatic 99, 3) := by decide +kernel
theorem dX11_valve_11 : decode cX11_valve 11 = .ok (.ifCond .ne 9, 3) := by decide +kernel
theorem dX11_valve_14 : decode cX11_valve 14 = .ok (.aload_n 0, 1) := by decide +kernel
theorem dX11_valve_15 : decode cX11_valve 15 = .ok (.iconst (-1), 1) := by decide +kernel
theorem dX11_valve_16 : decode cX11_valve 16 = .ok (.invokevirtual 193, 3) := by decide +kernel
theorem dX11_valve_19 : decode cX11_valve 19 = .ok (.ireturn, 1) := by decide +kernel
theorem dX11_valve_20 : decode cX11_valve 20 = .ok (.aload_n 0, 1) := by decide +kernel
theorem dX11_valve_21 : decode cX11_valve 21 = .ok (.getfield 10, 3) := by decide +kernel
theorem dX11_valve_24 : decode cX11_valve 24 = .ok (.getfield 220, 3) := by decide +kernel
theorem dX11_valve_27 : decode cX11_valve 27 = .ok (.iload_n 1, 1) := by decide +kernel
theorem dX11_valve_28 : decode cX11_valve 28 = .ok (.ishr, 1) := by decide +kernel
theorem dX11_valve_29 : decode cX11_valve 29 = .ok (.iconst 1, 1) := by decide +kernel
theorem dX11_valve_30 : decode cX11_valve 30 = .ok (.iand, 1) := by decide +kernel
theorem dX11_valve_31 : decode cX11_valve 31 = .ok (.iload_n 2, 1) := by decide +kernel
theorem dX11_valve_32 : decode cX11_valve 32 = .ok (.ifCond .eq 7, 3) := by decide +kernel
theorem dX11_valve_35 : decode cX11_valve 35 = .ok (.iconst 1, 1) := by decide +kernel
theorem dX11_valve_36 : decode cX11_valve 36 = .ok (.goto 4, 3) := by decide +kernel
theorem dX11_valve_39 : decode cX11_valve 39 = .ok (.iconst 0, 1) := by decide +kernel
theorem dX11_valve_40 : decode cX11_valve 40 = .ok (.if_icmp .ne 5, 3) := by decide +kernel
theorem dX11_valve_43 : decode cX11_valve 43 = .ok (.iconst 0, 1) := by decide +kernel
theorem dX11_valve_44 : decode cX11_valve 44 = .ok (.ireturn, 1) := by decide +kernel
theorem dX11_valve_45 : decode cX11_valve 45 = .ok (.iload_n 2, 1) := by decide +kernel
theorem dX11_valve_46 : decode cX11_valve 46 = .ok (.ifCond .eq 31, 3) := by decide +kernel
theorem dX11_valve_49 : decode cX11_valve 49 = .ok (.aload_n 0, 1) := by decide +kernel
theorem dX11_valve_50 : decode cX11_valve 50 = .ok (.getfield 45, 3) := by decide +kernel
theorem dX11_valve_53 : decode cX11_valve 53 = .ok (.iload_n 1, 1) := by decide +kernel
theorem dX11_valve_54 : decode cX11_valve 54 = .ok (.iconst 0, 1) := by decide +kernel
theorem dX11_valve_55 : decode cX11_valve 55 = .ok (.aload_n 0, 1) := by decide +kernel
theorem dX11_valve_56 : decode cX11_valve 56 = .ok (.getfield 10, 3) := by decide +kernel
theorem dX11_valve_59 : decode cX11_valve 59 = .ok (.getfield 162, 3) := by decide +kernel
theorem dX11_valve_62 : decode cX11_valve 62 = .ok (.invokevirtual 216, 3) := by decide +kernel
theorem dX11_valve_65 : decode cX11_valve 65 = .ok (.bipush (-9), 2) := by decide +kernel
theorem dX11_valve_67 : decode cX11_valve 67 = .ok (.if_icmp .eq 10, 3) := by decide +kernel
theorem dX11_valve_70 : decode cX11_valve 70 = .ok (.aload_n 0, 1) := by decide +kernel
theorem dX11_valve_71 : decode cX11_valve 71 = .ok (.bipush (-7), 2) := by decide +kernel
theorem dX11_valve_73 : decode cX11_valve 73 = .ok (.invokevirtual 193, 3) := by decide +kernel
theorem dX11_valve_76 : decode cX11_valve 76 = .ok (.ireturn, 1) := by decide +kernel
theorem dX11_valve_77 : decode cX11_valve 77 = .ok (.aload_n 0, 1) := by decide +kernel
theorem dX11_valve_78 : decode cX11_valve 78 = .ok (.getfield 29, 3) := by decide +kernel
theorem dX11_valve_81 : decode cX11_valve 81 = .ok (.iconst 0, 1) := by decide +kernel
theorem dX11_valve_82 : decode cX11_valve 82 = .ok (.iload_n 1, 1) := by decide +kernel
theorem dX11_valve_83 : decode cX11_valve 83 = .ok (.aload_n 0, 1) := by decide +kernel
theorem dX11_valve_84 : decode cX11_valve 84 = .ok (.getfield 10, 3) := by decide +kernel
theorem dX11_valve_87 : decode cX11_valve 87 = .ok (.aload_n 0, 1) := by decide +kernel
theorem dX11_valve_88 : decode cX11_valve 88 = .ok (.getfield 19, 3) := by decide +kernel
theorem dX11_valve_91 : decode cX11_valve 91 = .ok (.invokevirtual 223, 3) := by decide +kernel
theorem dX11_valve_94 : decode cX11_valve 94 = .ok (.iconst 1, 1) := by decide +kernel
theorem dX11_valve_95 : decode cX11_valve 95 = .ok (.ireturn, 1) := by decide +kernel
theorem dX11_start_0 : decode cX11_start 0 = .ok (.iload_n 1, 1) := by decide +kernel
theorem dX11_start_1 : decode cX11_start 1 = .ok (.aload_n 0, 1) := by decide +kernel
theorem dX11_start_2 : decode cX11_start 2 = .ok (.getfield 10, 3) := by decide +kernel
theorem dX11_start_5 : decode cX11_start 5 = .ok (.getfield 142, 3) := by decide +kernel
theorem dX11_start_8 : decode cX11_start 8 = .ok (.invokestatic 99, 3) := by decide +kernel
theorem dX11_start_11 : decode cX11_start 11 = .ok (.ifCond .ne 9, 3) := by decide +kernel
theorem dX11_start_14 : decode cX11_start 14 = .ok (.aload_n 0, 1) := by decide +kernel
theorem dX11_start_15 : decode cX11_start 15 = .ok (.iconst (-1), 1) := by decide +kernel
theorem dX11_start_16 : decode cX11_start 16 = .ok (.invokevirtual 193, 3) := by decide +kernel
theorem dX11_start_19 : decode cX11_start 19 = .ok (.ireturn, 1) := by decide +kernel
theorem dX11_start_20 : decode cX11_start 20 = .ok (.aload_n 0, 1) := by decide +kernel
theorem dX11_start_21 : decode cX11_start 21 = .ok (.getfield 10, 3) := by decide +kernel
theorem dX11_start_24 : decode cX11_start 24 = .ok (.getfield 162, 3) := by decide +kernel
theorem dX11_start_27 : decode cX11_start 27 = .ok (.iload_n 1, 1) := by decide +kernel
theorem dX11_start_28 : decode cX11_start 28 = .ok (.ishr, 1) := by decide +kernel
theorem dX11_start_29 : decode cX11_start 29 = .ok (.iconst 1, 1) := by decide +kernel
theorem dX11_start_30 : decode cX11_start 30 = .ok (.iand, 1) := by decide +kernel
theorem dX11_start_31 : decode cX11_start 31 = .ok (.iload_n 2, 1) := by decide +kernel
theorem dX11_start_32 : decode cX11_start 32 = .ok (.ifCond .eq 7, 3) := by decide +kernel
theorem dX11_start_35 : decode cX11_start 35 = .ok (.iconst 1, 1) := by decide +kernel
theorem dX11_start_36 : decode cX11_start 36 = .ok (.goto 4, 3) := by decide +kernel
theorem dX11_start_39 : decode cX11_start 39 = .ok (.iconst 0, 1) := by decide +kernel
theorem dX11_start_40 : decode cX11_start 40 = .ok (.if_icmp .ne 5, 3) := by decide +kernel
theorem dX11_start_43 : decode cX11_start 43 = .ok (.iconst 0, 1) := by decide +kernel
theorem dX11_start_44 : decode cX11_start 44 = .ok (.ireturn, 1) := by decide +kernel
theorem dX11_start_45 : decode cX11_start 45 = .ok (.iload_n 2, 1) := by decide +kernel
theorem dX11_start_46 : decode cX11_start 46 = .ok (.ifCond .eq 25, 3) := by decide +kernel
theorem dX11_start_49 : decode cX11_start 49 = .ok (.aload_n 0, 1) := by decide +kernel
theorem dX11_start_50 : decode cX11_start 50 = .ok (.getfield 19, 3) := by decide +kernel
theorem dX11_start_53 : decode cX11_start 53 = .ok (.getfield 165, 3) := by decide +kernel
theorem dX11_start_56 : decode cX11_start 56 = .ok (.iload_n 1, 1) := by decide +kernel
theorem dX11_start_57 : decode cX11_start 57 = .ok (.ishr, 1) := by decide +kernel
theorem dX11_start_58 : decode cX11_start 58 = .ok (.iconst 1, 1) := by decide +kernel
theorem dX11_start_59 : decode cX11_start 59 = .ok (.iand, 1) := by decide +kernel
theorem dX11_start_60 : decode cX11_start 60 = .ok (.iconst 1, 1) := by decide +kernel
theorem dX11_start_61 : decode cX11_start 61 = .ok (.if_icmp .ne 10, 3) := by decide +kernel
theorem dX11_start_64 : decode cX11_start 64 = .ok (.aload_n 0, 1) := by decide +kernel
theorem dX11_start_65 : decode cX11_start 65 = .ok (.bipush (-3), 2) := by decide +kernel
theorem dX11_start_67 : decode cX11_start 67 = .ok (.invokevirtual 193, 3) := by decide +kernel
theorem dX11_start_70 : decode cX11_start 70 = .ok (.ireturn, 1) := by decide +kernel
theorem dX11_start_71 : decode cX11_start 71 = .ok (.iload_n 2, 1) := by decide +kernel
theorem dX11_start_72 : decode cX11_start 72 = .ok (.ifCond .eq 31, 3) := by decide +kernel
theorem dX11_start_75 : decode cX11_start 75 = .ok (.aload_n 0, 1) := by decide +kernel
theorem dX11_start_76 : decode cX11_start 76 = .ok (.getfield 45, 3) := by decide +kernel
theorem dX11_start_79 : decode cX11_start 79 = .ok (.iload_n 1, 1) := by decide +kernel
theorem dX11_start_80 : decode cX11_start 80 = .ok (.iconst 1, 1) := by decide +kernel
theorem dX11_start_81 : decode cX11_start 81 = .ok (.aload_n 0, 1) := by decide +kernel
theorem dX11_start_82 : decode cX11_start 82 = .ok (.getfield 10, 3) := by decide +kernel
theorem dX11_start_85 : decode cX11_start 85 = .ok (.getfield 162, 3) := by decide +kernel
theorem dX11_start_88 : decode cX11_start 88 = .ok (.invokevirtual 216, 3) := by decide +kernel
theorem dX11_start_91 : decode cX11_start 91 = .ok (.bipush (-9), 2) := by decide +kernel
theorem dX11_start_93 : decode cX11_start 93 = .ok (.if_icmp .eq 10, 3) := by decide +kernel
theorem dX11_start_96 : decode cX11_start 96 = .ok (.aload_n 0, 1) := by decide +kernel
theorem dX11_start_97 : decode cX11_start 97 = .ok (.bipush (-7), 2) := by decide +kernel
theorem dX11_start_99 : decode cX11_start 99 = .ok (.invokevirtual 193, 3) := by decide +kernel
theorem dX11_start_102 : decode cX11_start 102 = .ok (.ireturn, 1) := by decide +kernel
theorem dX11_start_103 : decode cX11_start 103 = .ok (.aload_n 0, 1) := by decide +kernel
theorem dX11_start_104 : decode cX11_start 104 = .ok (.getfield 29, 3) := by decide +kernel
theorem dX11_start_107 : decode cX11_start 107 = .ok (.iconst 1, 1) := by decide +kernel
theorem dX11_start_108 : decode cX11_start 108 = .ok (.iload_n 1, 1) := by decide +kernel
theorem dX11_start_109 : decode cX11_start 109 = .ok (.aload_n 0, 1) := by decide +kernel
theorem dX11_start_110 : decode cX11_start 110 = .ok (.getfield 10, 3) := by decide +kernel
theorem dX11_start_113 : decode cX11_start 113 = .ok (.aload_n 0, 1) := by decide +kernel
theorem dX11_start_114 : decode cX11_start 114 = .ok (.getfield 19, 3) := by decide +kernel
theorem dX11_start_117 : decode cX11_start 117 = .ok (.invokevirtual 223, 3) := by decide +kernel
theorem dX11_start_120 : decode cX11_start 120 = .ok (.iconst 1, 1) := by decide +kernel
theorem dX11_start_121 : decode cX11_start 121 = .ok (.ireturn, 1) := by decide +kernel
theorem dX11_warmUp_0 : decode cX11_warmUp 0 = .ok (.iload_n 1, 1) := by decide +kernel
theorem dX11_warmUp_1 : decode cX11_warmUp 1 = .ok (.aload_n 0, 1) := by decide +kernel
theorem dX11_warmUp_2 : decode cX11_warmUp 2 = .ok (.getfield 10, 3) := by decide +kernel
theorem dX11_warmUp_5 : decode cX11_warmUp 5 = .ok (.getfield 142, 3) := by decide +kernel
theorem dX11_warmUp_8 : decode cX11_warmUp 8 = .ok (.invokestatic 99, 3) := by decide +kernel
theorem dX11_warmUp_11 : decode cX11_warmUp 11 = .ok (.ifCond .ne 9, 3) := by decide +kernel
theorem dX11_warmUp_14 : decode cX11_warmUp 14 = .ok (.aload_n 0, 1) := by decide +kernel
theorem dX11_warmUp_15 : decode cX11_warmUp 15 = .ok (.iconst (-1), 1) := by decide +kernel
theorem dX11_warmUp_16 : decode cX11_warmUp 16 = .ok (.invokevirtual 193, 3) := by decide +kernel
theorem dX11_warmUp_19 : decode cX11_warmUp 19 = .ok (.ireturn, 1) := by decide +kernel
theorem dX11_warmUp_20 : decode cX11_warmUp 20 = .ok (.aload_n 0, 1) := by decide +kernel
theorem dX11_warmUp_21 : decode cX11_warmUp 21 = .ok (.getfield 10, 3) := by decide +kernel
theorem dX11_warmUp_24 : decode cX11_warmUp 24 = .ok (.getfield 168, 3) := by decide +kernel
theorem dX11_warmUp_27 : decode cX11_warmUp 27 = .ok (.iload_n 1, 1) := by decide +kernel
theorem dX11_warmUp_28 : decode cX11_warmUp 28 = .ok (.iaload, 1) := by decide +kernel
theorem dX11_warmUp_29 : decode cX11_warmUp 29 = .ok (.ifCond .ne 10, 3) := by decide +kernel
theorem dX11_warmUp_32 : decode cX11_warmUp 32 = .ok (.aload_n 0, 1) := by decide +kernel
theorem dX11_warmUp_33 : decode cX11_warmUp 33 = .ok (.bipush (-3), 2) := by decide +kernel
theorem dX11_warmUp_35 : decode cX11_warmUp 35 = .ok (.invokevirtual 193, 3) := by decide +kernel
theorem dX11_warmUp_38 : decode cX11_warmUp 38 = .ok (.ireturn, 1) := by decide +kernel
theorem dX11_warmUp_39 : decode cX11_warmUp 39 = .ok (.aload_n 0, 1) := by decide +kernel
theorem dX11_warmUp_40 : decode cX11_warmUp 40 = .ok (.getfield 19, 3) := by decide +kernel
theorem dX11_warmUp_43 : decode cX11_warmUp 43 = .ok (.getfield 165, 3) := by decide +kernel
theorem dX11_warmUp_46 : decode cX11_warmUp 46 = .ok (.iload_n 1, 1) := by decide +kernel
theorem dX11_warmUp_47 : decode cX11_warmUp 47 = .ok (.ishr, 1) := by decide +kernel
theorem dX11_warmUp_48 : decode cX11_warmUp 48 = .ok (.iconst 1, 1) := by decide +kernel
theorem dX11_warmUp_49 : decode cX11_warmUp 49 = .ok (.iand, 1) := by decide +kernel
theorem dX11_warmUp_50 : decode cX11_warmUp 50 = .ok (.iconst 1, 1) := by decide +kernel
theorem dX11_warmUp_51 : decode cX11_warmUp 51 = .ok (.if_icmp .ne 5, 3) := by decide +kernel
theorem dX11_warmUp_54 : decode cX11_warmUp 54 = .ok (.iconst 0, 1) := by decide +kernel
theorem dX11_warmUp_55 : decode cX11_warmUp 55 = .ok (.ireturn, 1) := by decide +kernel
theorem dX11_warmUp_56 : decode cX11_warmUp 56 = .ok (.aload_n 0, 1) := by decide +kernel
theorem dX11_warmUp_57 : decode cX11_warmUp 57 = .ok (.getfield 29, 3) := by decide +kernel
theorem dX11_warmUp_60 : decode cX11_warmUp 60 = .ok (.iconst 2, 1) := by decide +kernel
theorem dX11_warmUp_61 : decode cX11_warmUp 61 = .ok (.iload_n 1, 1) := by decide +kernel
theorem dX11_warmUp_62 : decode cX11_warmUp 62 = .ok (.aload_n 0, 1) := by decide +kernel
theorem dX11_warmUp_63 : decode cX11_warmUp 63 = .ok (.getfield 10, 3) := by decide +kernel
theorem dX11_warmUp_66 : decode cX11_warmUp 66 = .ok (.aload_n 0, 1) := by decide +kernel
theorem dX11_warmUp_67 : decode cX11_warmUp 67 = .ok (.getfield 19, 3) := by decide +kernel
theorem dX11_warmUp_70 : decode cX11_warmUp 70 = .ok (.invokevirtual 223, 3) := by decide +kernel
theorem dX11_warmUp_73 : decode cX11_warmUp 73 = .ok (.iconst 1, 1) := by decide +kernel
theorem dX11_warmUp_74 : decode cX11_warmUp 74 = .ok (.ireturn, 1) := by decide +kernel
theorem dX11_undo_0 : decode cX11_undo 0 = .ok (.aload_n 0, 1) := by decide +kernel
theorem dX11_undo_1 : decode cX11_undo 1 = .ok (.getfield 29, 3) := by decide +kernel
theorem dX11_undo_4 : decode cX11_undo 4 = .ok (.aload_n 0, 1) := by decide +kernel
theorem dX11_undo_5 : decode cX11_undo 5 = .ok (.getfield 10, 3) := by decide +kernel
theorem dX11_undo_8 : decode cX11_undo 8 = .ok (.aload_n 0, 1) := by decide +kernel
theorem dX11_undo_9 : decode cX11_undo 9 = .ok (.getfield 19, 3) := by decide +kernel
theorem dX11_undo_12 : decode cX11_undo 12 = .ok (.invokevirtual 227, 3) := by decide +kernel
theorem dX11_undo_15 : decode cX11_undo 15 = .ok (.ifCond .eq 7, 3) := by decide +kernel
theorem dX11_undo_18 : decode cX11_undo 18 = .ok (.iconst 1, 1) := by decide +kernel
theorem dX11_undo_19 : decode cX11_undo 19 = .ok (.goto 9, 3) := by decide +kernel
theorem dX11_undo_22 : decode cX11_undo 22 = .ok (.aload_n 0, 1) := by decide +kernel
theorem dX11_undo_23 : decode cX11_undo 23 = .ok (.bipush (-3), 2) := by decide +kernel
theorem dX11_undo_25 : decode cX11_undo 25 = .ok (.invokevirtual 193, 3) := by decide +kernel
theorem dX11_undo_28 : decode cX11_undo 28 = .ok (.ireturn, 1) := by decide +kernel
theorem dX11_redo_0 : decode cX11_redo 0 = .ok (.aload_n 0, 1) := by decide +kernel
theorem dX11_redo_1 : decode cX11_redo 1 = .ok (.getfield 29, 3) := by decide +kernel
theorem dX11_redo_4 : decode cX11_redo 4 = .ok (.aload_n 0, 1) := by decide +kernel
theorem dX11_redo_5 : decode cX11_redo 5 = .ok (.getfield 10, 3) := by decide +kernel
theorem dX11_redo_8 : decode cX11_redo 8 = .ok (.aload_n 0, 1) := by decide +kernel
theorem dX11_redo_9 : decode cX11_redo 9 = .ok (.getfield 19, 3) := by decide +kernel
theorem dX11_redo_12 : decode cX11_redo 12 = .ok (.invokevirtual 231, 3) := by decide +kernel
theorem dX11_redo_15 : decode cX11_redo 15 = .ok (.ifCond .eq 7, 3) := by decide +kernel
theorem dX11_redo_18 : decode cX11_redo 18 = .ok (.iconst 1, 1) := by decide +kernel
theorem dX11_redo_19 : decode cX11_redo 19 = .ok (.goto 9, 3) := by decide +kernel
theorem dX11_redo_22 : decode cX11_redo 22 = .ok (.aload_n 0, 1) := by decide +kernel
theorem dX11_redo_23 : decode cX11_redo 23 = .ok (.bipush (-3), 2) := by decide +kernel
theorem dX11_redo_25 : decode cX11_redo 25 = .ok (.invokevirtual 193, 3) := by decide +kernel
theorem dX11_redo_28 : decode cX11_redo 28 = .ok (.ireturn, 1) := by decide +kernel
theorem dX11_order_0 : decode cX11_order 0 = .ok (.iload_n 1, 1) := by decide +kernel
theorem dX11_order_1 : decode cX11_order 1 = .ok (.ifCond .lt 27, 3) := by decide +kernel
theorem dX11_order_4 : decode cX11_order 4 = .ok (.iload_n 1, 1) := by decide +kernel
theorem dX11_order_5 : decode cX11_order 5 = .ok (.aload_n 0, 1) := by decide +kernel
theorem dX11_order_6 : decode cX11_order 6 = .ok (.getfield 10, 3) := by decide +kernel
theorem dX11_order_9 : decode cX11_order 9 = .ok (.getfield 142, 3) := by decide +kernel
theorem dX11_order_12 : decode cX11_order 12 = .ok (.ishr, 1) := by decide +kernel
theorem dX11_order_13 : decode cX11_order 13 = .ok (.ifCond .ne 15, 3) := by decide +kernel
theorem dX11_order_16 : decode cX11_order 16 = .ok (.iload_n 1, 1) := by decide +kernel
theorem dX11_order_17 : decode cX11_order 17 = .ok (.aload_n 0, 1) := by decide +kernel
theorem dX11_order_18 : decode cX11_order 18 = .ok (.getfield 10, 3) := by decide +kernel
theorem dX11_order_21 : decode cX11_order 21 = .ok (.getfield 162, 3) := by decide +kernel
theorem dX11_order_24 : decode cX11_order 24 = .ok (.iand, 1) := by decide +kernel
theorem dX11_order_25 : decode cX11_order 25 = .ok (.ifCond .eq 7, 3) := by decide +kernel
theorem dX11_order_28 : decode cX11_order 28 = .ok (.iconst 1, 1) := by decide +kernel
theorem dX11_order_29 : decode cX11_order 29 = .ok (.goto 4, 3) := by decide +kernel
theorem dX11_order_32 : decode cX11_order 32 = .ok (.iconst 0, 1) := by decide +kernel
theorem dX11_order_33 : decode cX11_order 33 = .ok (.istore_n 3, 1) := by decide +kernel
theorem dX11_order_34 : decode cX11_order 34 = .ok (.aload_n 0, 1) := by decide +kernel
theorem dX11_order_35 : decode cX11_order 35 = .ok (.iload_n 3, 1) := by decide +kernel
theorem dX11_order_36 : decode cX11_order 36 = .ok (.iconst 0, 1) := by decide +kernel
theorem dX11_order_37 : decode cX11_order 37 = .ok (.iload_n 2, 1) := by decide +kernel
theorem dX11_order_38 : decode cX11_order 38 = .ok (.ifCond .ge 7, 3) := by decide +kernel
theorem dX11_order_41 : decode cX11_order 41 = .ok (.iconst 1, 1) := by decide +kernel
theorem dX11_order_42 : decode cX11_order 42 = .ok (.goto 4, 3) := by decide +kernel
theorem dX11_order_45 : decode cX11_order 45 = .ok (.iconst 0, 1) := by decide +kernel
theorem dX11_order_46 : decode cX11_order 46 = .ok (.iload_n 1, 1) := by decide +kernel
theorem dX11_order_47 : decode cX11_order 47 = .ok (.invokestatic 234, 3) := by decide +kernel
theorem dX11_order_50 : decode cX11_order 50 = .ok (.bipush 6, 2) := by decide +kernel
theorem dX11_order_52 : decode cX11_order 52 = .ok (.if_icmp .le 7, 3) := by decide +kernel
theorem dX11_order_55 : decode cX11_order 55 = .ok (.iconst 1, 1) := by decide +kernel
theorem dX11_order_56 : decode cX11_order 56 = .ok (.goto 4, 3) := by decide +kernel
theorem dX11_order_59 : decode cX11_order 59 = .ok (.iconst 0, 1) := by decide +kernel
theorem dX11_order_60 : decode cX11_order 60 = .ok (.invokevirtual 107, 3) := by decide +kernel
theorem dX11_order_63 : decode cX11_order 63 = .ok (.istore 4, 2) := by decide +kernel
theorem dX11_order_65 : decode cX11_order 65 = .ok (.iload 4, 2) := by decide +kernel
theorem dX11_order_67 : decode cX11_order 67 = .ok (.ifCond .eq 8, 3) := by decide +kernel
theorem dX11_order_70 : decode cX11_order 70 = .ok (.iload 4, 2) := by decide +kernel
theorem dX11_order_72 : decode cX11_order 72 = .ok (.goto 26, 3) := by decide +kernel
theorem dX11_order_75 : decode cX11_order 75 = .ok (.aload_n 0, 1) := by decide +kernel
theorem dX11_order_76 : decode cX11_order 76 = .ok (.getfield 54, 3) := by decide +kernel
theorem dX11_order_79 : decode cX11_order 79 = .ok (.iload_n 1, 1) := by decide +kernel
theorem dX11_order_80 : decode cX11_order 80 = .ok (.iload_n 2, 1) := by decide +kernel
theorem dX11_order_81 : decode cX11_order 81 = .ok (.aload_n 0, 1) := by decide +kernel
theorem dX11_order_82 : decode cX11_order 82 = .ok (.getfield 10, 3) := by decide +kernel
theorem dX11_order_85 : decode cX11_order 85 = .ok (.getfield 162, 3) := by decide +kernel
theorem dX11_order_88 : decode cX11_order 88 = .ok (.aload_n 0, 1) := by decide +kernel
theorem dX11_order_89 : decode cX11_order 89 = .ok (.getfield 19, 3) := by decide +kernel
theorem dX11_order_92 : decode cX11_order 92 = .ok (.getfield 165, 3) := by decide +kernel
theorem dX11_order_95 : decode cX11_order 95 = .ok (.invokevirtual 239, 3) := by decide +kernel
theorem dX11_order_98 : decode cX11_order 98 = .ok (.ireturn, 1) := by decide +kernel
theorem dX11_rest_0 : decode cX11_rest 0 = .ok (.aload_n 0, 1) := by decide +kernel
theorem dX11_rest_1 : decode cX11_rest 1 = .ok (.iload_n 1, 1) := by decide +kernel
theorem dX11_rest_2 : decode cX11_rest 2 = .ok (.aload_n 0, 1) := by decide +kernel
theorem dX11_rest_3 : decode cX11_rest 3 = .ok (.getfield 10, 3) := by decide +kernel
theorem dX11_rest_6 : decode cX11_rest 6 = .ok (.getfield 103, 3) := by decide +kernel
theorem dX11_rest_9 : decode cX11_rest 9 = .ok (.invokestatic 99, 3) := by decide +kernel
theorem dX11_rest_12 : decode cX11_rest 12 = .ok (.ifCond .eq 11, 3) := by decide +kernel
theorem dX11_rest_15 : decode cX11_rest 15 = .ok (.iload_n 2, 1) := by decide +kernel
theorem dX11_rest_16 : decode cX11_rest 16 = .ok (.iconst 3, 1) := by decide +kernel
theorem dX11_rest_17 : decode cX11_rest 17 = .ok (.invokestatic 99, 3) := by decide +kernel
theorem dX11_rest_20 : decode cX11_rest 20 = .ok (.ifCond .ne 7, 3) := by decide +kernel
theorem dX11_rest_23 : decode cX11_rest 23 = .ok (.iconst 1, 1) := by decide +kernel
theorem dX11_rest_24 : decode cX11_rest 24 = .ok (.goto 4, 3) := by decide +kernel
theorem dX11_rest_27 : decode cX11_rest 27 = .ok (.iconst 0, 1) := by decide +kernel
theorem dX11_rest_28 : decode cX11_rest 28 = .ok (.iload_n 3, 1) := by decide +kernel
theorem dX11_rest_29 : decode cX11_rest 29 = .ok (.iconst 2, 1) := by decide +kernel
theorem dX11_rest_30 : decode cX11_rest 30 = .ok (.invokestatic 99, 3) := by decide +kernel
theorem dX11_rest_33 : decode cX11_rest 33 = .ok (.ifCond .ne 7, 3) := by decide +kernel
theorem dX11_rest_36 : decode cX11_rest 36 = .ok (.iconst 1, 1) := by decide +kernel
theorem dX11_rest_37 : decode cX11_rest 37 = .ok (.goto 4, 3) := by decide +kernel
theorem dX11_rest_40 : decode cX11_rest 40 = .ok (.iconst 0, 1) := by decide +kernel
theorem dX11_rest_41 : decode cX11_rest 41 = .ok (.iconst 0, 1) := by decide +kernel
theorem dX11_rest_42 : decode cX11_rest 42 = .ok (.iconst 0, 1) := by decide +kernel
theorem dX11_rest_43 : decode cX11_rest 43 = .ok (.invokevirtual 107, 3) := by decide +kernel
theorem dX11_rest_46 : decode cX11_rest 46 = .ok (.istore 4, 2) := by decide +kernel
theorem dX11_rest_48 : decode cX11_rest 48 = .ok (.iload 4, 2) := by decide +kernel
theorem dX11_rest_50 : decode cX11_rest 50 = .ok (.ifCond .eq 9, 3) := by decide +kernel
theorem dX11_rest_53 : decode cX11_rest 53 = .ok (.iload 4, 2) := by decide +kernel
theorem dX11_rest_55 : decode cX11_rest 55 = .ok (.i2l, 1) := by decide +kernel
theorem dX11_rest_56 : decode cX11_rest 56 = .ok (.goto 13, 3) := by decide +kernel
theorem dX11_rest_59 : decode cX11_rest 59 = .ok (.aload_n 0, 1) := by decide +kernel
theorem dX11_rest_60 : decode cX11_rest 60 = .ok (.getfield 63, 3) := by decide +kernel
theorem dX11_rest_63 : decode cX11_rest 63 = .ok (.iload_n 1, 1) := by decide +kernel
theorem dX11_rest_64 : decode cX11_rest 64 = .ok (.iload_n 2, 1) := by decide +kernel
theorem dX11_rest_65 : decode cX11_rest 65 = .ok (.iload_n 3, 1) := by decide +kernel
theorem dX11_rest_66 : decode cX11_rest 66 = .ok (.invokevirtual 243, 3) := by decide +kernel
theorem dX11_rest_69 : decode cX11_rest 69 = .ok (.lreturn, 1) := by decide +kernel
theorem dX11_square_0 : decode cX11_square 0 = .ok (.iload_n 1, 1) := by decide +kernel
theorem dX11_square_1 : decode cX11_square 1 = .ok (.iconst 5, 1) := by decide +kernel
theorem dX11_square_2 : decode cX11_square 2 = .ok (.invokestatic 99, 3) := by decide +kernel
theorem dX11_square_5 : decode cX11_square 5 = .ok (.ifCond .eq 11, 3) := by decide +kernel
theorem dX11_square_8 : decode cX11_square 8 = .ok (.iload_n 2, 1) := by decide +kernel
theorem dX11_square_9 : decode cX11_square 9 = .ok (.iconst 5, 1) := by decide +kernel
theorem dX11_square_10 : decode cX11_square 10 = .ok (.invokestatic 99, 3) := by decide +kernel
theorem dX11_square_13 : decode cX11_square 13 = .ok (.ifCond .ne 9, 3) := by decide +kernel
theorem dX11_square_16 : decode cX11_square 16 = .ok (.aload_n 0, 1) := by decide +kernel
theorem dX11_square_17 : decode cX11_square 17 = .ok (.iconst (-1), 1) := by decide +kernel
theorem dX11_square_18 : decode cX11_square 18 = .ok (.invokevirtual 193, 3) := by decide +kernel
theorem dX11_square_21 : decode cX11_square 21 = .ok (.ireturn, 1) := by decide +kernel
theorem dX11_square_22 : decode cX11_square 22 = .ok (.aload_n 0, 1) := by decide +kernel
theorem dX11_square_23 : decode cX11_square 23 = .ok (.getfield 70, 3) := by decide +kernel
theorem dX11_square_26 : decode cX11_square 26 = .ok (.iload_n 1, 1) := by decide +kernel
theorem dX11_square_27 : decode cX11_square 27 = .ok (.iload_n 2, 1) := by decide +kernel
theorem dX11_square_28 : decode cX11_square 28 = .ok (.iload_n 3, 1) := by decide +kernel
theorem dX11_square_29 : decode cX11_square 29 = .ok (.invokevirtual 247, 3) := by decide +kernel
theorem dX11_square_32 : decode cX11_square 32 = .ok (.ifCond .eq 7, 3) := by decide +kernel
theorem dX11_square_35 : decode cX11_square 35 = .ok (.iconst 1, 1) := by decide +kernel
theorem dX11_square_36 : decode cX11_square 36 = .ok (.goto 4, 3) := by decide +kernel
theorem dX11_square_39 : decode cX11_square 39 = .ok (.iconst 0, 1) := by decide +kernel
theorem dX11_square_40 : decode cX11_square 40 = .ok (.ireturn, 1) := by decide +kernel
theorem dX11_walks_0 : decode cX11_walks 0 = .ok (.aload_n 0, 1) := by decide +kernel
theorem dX11_walks_1 : decode cX11_walks 1 = .ok (.iload_n 1, 1) := by decide +kernel
theorem dX11_walks_2 : decode cX11_walks 2 = .ok (.iconst 5, 1) := by decide +kernel
theorem dX11_walks_3 : decode cX11_walks 3 = .ok (.invokestatic 99, 3) := by decide +kernel
theorem dX11_walks_6 : decode cX11_walks 6 = .ok (.ifCond .ne 7, 3) := by decide +kernel
theorem dX11_walks_9 : decode cX11_walks 9 = .ok (.iconst 1, 1) := by decide +kernel
theorem dX11_walks_10 : decode cX11_walks 10 = .ok (.goto 4, 3) := by decide +kernel
theorem dX11_walks_13 : decode cX11_walks 13 = .ok (.iconst 0, 1) := by decide +kernel
theorem dX11_walks_14 : decode cX11_walks 14 = .ok (.iload_n 3, 1) := by decide +kernel
theorem dX11_walks_15 : decode cX11_walks 15 = .ok (.iconst 3, 1) := by decide +kernel
theorem dX11_walks_16 : decode cX11_walks 16 = .ok (.invokestatic 99, 3) := by decide +kernel
theorem dX11_walks_19 : decode cX11_walks 19 = .ok (.ifCond .ne 7, 3) := by decide +kernel
theorem dX11_walks_22 : decode cX11_walks 22 = .ok (.iconst 1, 1) := by decide +kernel
theorem dX11_walks_23 : decode cX11_walks 23 = .ok (.goto 4, 3) := by decide +kernel
theorem dX11_walks_26 : decode cX11_walks 26 = .ok (.iconst 0, 1) := by decide +kernel
theorem dX11_walks_27 : decode cX11_walks 27 = .ok (.iload_n 2, 1) := by decide +kernel
theorem dX11_walks_28 : decode cX11_walks 28 = .ok (.iconst 1, 1) := by decide +kernel
theorem dX11_walks_29 : decode cX11_walks 29 = .ok (.if_icmp .ge 7, 3) := by decide +kernel
theorem dX11_walks_32 : decode cX11_walks 32 = .ok (.iconst 1, 1) := by decide +kernel
theorem dX11_walks_33 : decode cX11_walks 33 = .ok (.goto 4, 3) := by decide +kernel
theorem dX11_walks_36 : decode cX11_walks 36 = .ok (.iconst 0, 1) := by decide +kernel
theorem dX11_walks_37 : decode cX11_walks 37 = .ok (.iload_n 2, 1) := by decide +kernel
theorem dX11_walks_38 : decode cX11_walks 38 = .ok (.bipush 12, 2) := by decide +kernel
theorem dX11_walks_40 : decode cX11_walks 40 = .ok (.if_icmp .le 7, 3) := by decide +kernel
theorem dX11_walks_43 : decode cX11_walks 43 = .ok (.iconst 1, 1) := by decide +kernel
theorem dX11_walks_44 : decode cX11_walks 44 = .ok (.goto 4, 3) := by decide +kernel
theorem dX11_walks_47 : decode cX11_walks 47 = .ok (.iconst 0, 1) := by decide +kernel
theorem dX11_walks_48 : decode cX11_walks 48 = .ok (.invokevirtual 107, 3) := by decide +kernel
theorem dX11_walks_51 : decode cX11_walks 51 = .ok (.istore 4, 2) := by decide +kernel
theorem dX11_walks_53 : decode cX11_walks 53 = .ok (.iload 4, 2) := by decide +kernel
theorem dX11_walks_55 : decode cX11_walks 55 = .ok (.ifCond .eq 8, 3) := by decide +kernel
theorem dX11_walks_58 : decode cX11_walks 58 = .ok (.iload 4, 2) := by decide +kernel
theorem dX11_walks_60 : decode cX11_walks 60 = .ok (.goto 13, 3) := by decide +kernel
theorem dX11_walks_63 : decode cX11_walks 63 = .ok (.aload_n 0, 1) := by decide +kernel
theorem dX11_walks_64 : decode cX11_walks 64 = .ok (.getfield 70, 3) := by decide +kernel
theorem dX11_walks_67 : decode cX11_walks 67 = .ok (.iload_n 1, 1) := by decide +kernel
theorem dX11_walks_68 : decode cX11_walks 68 = .ok (.iload_n 2, 1) := by decide +kernel
theorem dX11_walks_69 : decode cX11_walks 69 = .ok (.iload_n 3, 1) := by decide +kernel
theorem dX11_walks_70 : decode cX11_walks 70 = .ok (.invokevirtual 251, 3) := by decide +kernel
theorem dX11_walks_73 : decode cX11_walks 73 = .ok (.ireturn, 1) := by decide +kernel
theorem dX11_sees_0 : decode cX11_sees 0 = .ok (.aload_n 0, 1) := by decide +kernel
theorem dX11_sees_1 : decode cX11_sees 1 = .ok (.iload_n 1, 1) := by decide +kernel
theorem dX11_sees_2 : decode cX11_sees 2 = .ok (.iconst 3, 1) := by decide +kernel
theorem dX11_sees_3 : decode cX11_sees 3 = .ok (.invokestatic 99, 3) := by decide +kernel
theorem dX11_sees_6 : decode cX11_sees 6 = .ok (.ifCond .eq 11, 3) := by decide +kernel
theorem dX11_sees_9 : decode cX11_sees 9 = .ok (.iload_n 2, 1) := by decide +kernel
theorem dX11_sees_10 : decode cX11_sees 10 = .ok (.iconst 3, 1) := by decide +kernel
theorem dX11_sees_11 : decode cX11_sees 11 = .ok (.invokestatic 99, 3) := by decide +kernel
theorem dX11_sees_14 : decode cX11_sees 14 = .ok (.ifCond .ne 7, 3) := by decide +kernel
theorem dX11_sees_17 : decode cX11_sees 17 = .ok (.iconst 1, 1) := by decide +kernel
theorem dX11_sees_18 : decode cX11_sees 18 = .ok (.goto 4, 3) := by decide +kernel
theorem dX11_sees_21 : decode cX11_sees 21 = .ok (.iconst 0, 1) := by decide +kernel
theorem dX11_sees_22 : decode cX11_sees 22 = .ok (.iconst 0, 1) := by decide +kernel
theorem dX11_sees_23 : decode cX11_sees 23 = .ok (.iload_n 3, 1) := by decide +kernel
theorem dX11_sees_24 : decode cX11_sees 24 = .ok (.ifCond .ge 7, 3) := by decide +kernel
theorem dX11_sees_27 : decode cX11_sees 27 = .ok (.iconst 1, 1) := by decide +kernel
theorem dX11_sees_28 : decode cX11_sees 28 = .ok (.goto 4, 3) := by decide +kernel
theorem dX11_sees_31 : decode cX11_sees 31 = .ok (.iconst 0, 1) := by decide +kernel
theorem dX11_sees_32 : decode cX11_sees 32 = .ok (.iload_n 3, 1) := by decide +kernel
theorem dX11_sees_33 : decode cX11_sees 33 = .ok (.bipush 9, 2) := by decide +kernel
theorem dX11_sees_35 : decode cX11_sees 35 = .ok (.if_icmp .le 7, 3) := by decide +kernel
theorem dX11_sees_38 : decode cX11_sees 38 = .ok (.iconst 1, 1) := by decide +kernel
theorem dX11_sees_39 : decode cX11_sees 39 = .ok (.goto 4, 3) := by decide +kernel
theorem dX11_sees_42 : decode cX11_sees 42 = .ok (.iconst 0, 1) := by decide +kernel
theorem dX11_sees_43 : decode cX11_sees 43 = .ok (.invokevirtual 107, 3) := by decide +kernel
theorem dX11_sees_46 : decode cX11_sees 46 = .ok (.istore 4, 2) := by decide +kernel
theorem dX11_sees_48 : decode cX11_sees 48 = .ok (.iload 4, 2) := by decide +kernel
theorem dX11_sees_50 : decode cX11_sees 50 = .ok (.ifCond .eq 6, 3) := by decide +kernel
theorem dX11_sees_53 : decode cX11_sees 53 = .ok (.iload 4, 2) := by decide +kernel
theorem dX11_sees_55 : decode cX11_sees 55 = .ok (.ireturn, 1) := by decide +kernel
theorem dX11_sees_56 : decode cX11_sees 56 = .ok (.iload_n 1, 1) := by decide +kernel
theorem dX11_sees_57 : decode cX11_sees 57 = .ok (.iconst 3, 1) := by decide +kernel
theorem dX11_sees_58 : decode cX11_sees 58 = .ok (.imul, 1) := by decide +kernel
theorem dX11_sees_59 : decode cX11_sees 59 = .ok (.iload_n 2, 1) := by decide +kernel
theorem dX11_sees_60 : decode cX11_sees 60 = .ok (.iadd, 1) := by decide +kernel
theorem dX11_sees_61 : decode cX11_sees 61 = .ok (.istore 5, 2) := by decide +kernel
theorem dX11_sees_63 : decode cX11_sees 63 = .ok (.aload_n 0, 1) := by decide +kernel
theorem dX11_sees_64 : decode cX11_sees 64 = .ok (.getfield 77, 3) := by decide +kernel
theorem dX11_sees_67 : decode cX11_sees 67 = .ok (.getfield 254, 3) := by decide +kernel
theorem dX11_sees_70 : decode cX11_sees 70 = .ok (.iload 5, 2) := by decide +kernel
theorem dX11_sees_72 : decode cX11_sees 72 = .ok (.iaload, 1) := by decide +kernel
theorem dX11_sees_73 : decode cX11_sees 73 = .ok (.istore 6, 2) := by decide +kernel
theorem dX11_sees_75 : decode cX11_sees 75 = .ok (.aload_n 0, 1) := by decide +kernel
theorem dX11_sees_76 : decode cX11_sees 76 = .ok (.getfield 77, 3) := by decide +kernel
theorem dX11_sees_79 : decode cX11_sees 79 = .ok (.getfield 254, 3) := by decide +kernel
theorem dX11_sees_82 : decode cX11_sees 82 = .ok (.iload 5, 2) := by decide +kernel
theorem dX11_sees_84 : decode cX11_sees 84 = .ok (.iload_n 3, 1) := by decide +kernel
theorem dX11_sees_85 : decode cX11_sees 85 = .ok (.iastore, 1) := by decide +kernel
theorem dX11_sees_86 : decode cX11_sees 86 = .ok (.iload 6, 2) := by decide +kernel
theorem dX11_sees_88 : decode cX11_sees 88 = .ok (.ireturn, 1) := by decide +kernel
theorem dX11_reads_0 : decode cX11_reads 0 = .ok (.iload_n 1, 1) := by decide +kernel
theorem dX11_reads_1 : decode cX11_reads 1 = .ok (.iconst 3, 1) := by decide +kernel
theorem dX11_reads_2 : decode cX11_reads 2 = .ok (.invokestatic 99, 3) := by decide +kernel
theorem dX11_reads_5 : decode cX11_reads 5 = .ok (.ifCond .eq 17, 3) := by decide +kernel
theorem dX11_reads_8 : decode cX11_reads 8 = .ok (.iload_n 2, 1) := by decide +kernel
theorem dX11_reads_9 : decode cX11_reads 9 = .ok (.aload_n 0, 1) := by decide +kernel
theorem dX11_reads_10 : decode cX11_reads 10 = .ok (.getfield 10, 3) := by decide +kernel
theorem dX11_reads_13 : decode cX11_reads 13 = .ok (.getfield 103, 3) := by decide +kernel
theorem dX11_reads_16 : decode cX11_reads 16 = .ok (.invokestatic 99, 3) := by decide +kernel
theorem dX11_reads_19 : decode cX11_reads 19 = .ok (.ifCond .ne 9, 3) := by decide +kernel
theorem dX11_reads_22 : decode cX11_reads 22 = .ok (.aload_n 0, 1) := by decide +kernel
theorem dX11_reads_23 : decode cX11_reads 23 = .ok (.iconst (-1), 1) := by decide +kernel
theorem dX11_reads_24 : decode cX11_reads 24 = .ok (.invokevirtual 193, 3) := by decide +kernel
theorem dX11_reads_27 : decode cX11_reads 27 = .ok (.ireturn, 1) := by decide +kernel
theorem dX11_reads_28 : decode cX11_reads 28 = .ok (.aload_n 0, 1) := by decide +kernel
theorem dX11_reads_29 : decode cX11_reads 29 = .ok (.getfield 77, 3) := by decide +kernel
theorem dX11_reads_32 : decode cX11_reads 32 = .ok (.iload_n 1, 1) := by decide +kernel
theorem dX11_reads_33 : decode cX11_reads 33 = .ok (.aload_n 0, 1) := by decide +kernel
theorem dX11_reads_34 : decode cX11_reads 34 = .ok (.getfield 19, 3) := by decide +kernel
theorem dX11_reads_37 : decode cX11_reads 37 = .ok (.iload_n 2, 1) := by decide +kernel
theorem dX11_reads_38 : decode cX11_reads 38 = .ok (.invokevirtual 257, 3) := by decide +kernel
theorem dX11_reads_41 : decode cX11_reads 41 = .ok (.ireturn, 1) := by decide +kernel
theorem dX11_reading_0 : decode cX11_reading 0 = .ok (.aload_n 0, 1) := by decide +kernel
theorem dX11_reading_1 : decode cX11_reading 1 = .ok (.iload_n 1, 1) := by decide +kernel
theorem dX11_reading_2 : decode cX11_reading 2 = .ok (.iconst 3, 1) := by decide +kernel
theorem dX11_reading_3 : decode cX11_reading 3 = .ok (.invokestatic 99, 3) := by decide +kernel
theorem dX11_reading_6 : decode cX11_reading 6 = .ok (.ifCond .ne 7, 3) := by decide +kernel
theorem dX11_reading_9 : decode cX11_reading 9 = .ok (.iconst 1, 1) := by decide +kernel
theorem dX11_reading_10 : decode cX11_reading 10 = .ok (.goto 4, 3) := by decide +kernel
theorem dX11_reading_13 : decode cX11_reading 13 = .ok (.iconst 0, 1) := by decide +kernel
theorem dX11_reading_14 : decode cX11_reading 14 = .ok (.iconst 0, 1) := by decide +kernel
theorem dX11_reading_15 : decode cX11_reading 15 = .ok (.iload_n 2, 1) := by decide +kernel
theorem dX11_reading_16 : decode cX11_reading 16 = .ok (.iconst (-1), 1) := by decide +kernel
theorem dX11_reading_17 : decode cX11_reading 17 = .ok (.if_icmp .ge 7, 3) := by decide +kernel
theorem dX11_reading_20 : decode cX11_reading 20 = .ok (.iconst 1, 1) := by decide +kernel
theorem dX11_reading_21 : decode cX11_reading 21 = .ok (.goto 4, 3) := by decide +kernel
theorem dX11_reading_24 : decode cX11_reading 24 = .ok (.iconst 0, 1) := by decide +kernel
theorem dX11_reading_25 : decode cX11_reading 25 = .ok (.iload_n 2, 1) := by decide +kernel
theorem dX11_reading_26 : decode cX11_reading 26 = .ok (.sipush 9999, 3) := by decide +kernel
theorem dX11_reading_29 : decode cX11_reading 29 = .ok (.if_icmp .le 7, 3) := by decide +kernel
theorem dX11_reading_32 : decode cX11_reading 32 = .ok (.iconst 1, 1) := by decide +kernel
theorem dX11_reading_33 : decode cX11_reading 33 = .ok (.goto 4, 3) := by decide +kernel
theorem dX11_reading_36 : decode cX11_reading 36 = .ok (.iconst 0, 1) := by decide +kernel
theorem dX11_reading_37 : decode cX11_reading 37 = .ok (.invokevirtual 107, 3) := by decide +kernel
theorem dX11_reading_40 : decode cX11_reading 40 = .ok (.istore_n 3, 1) := by decide +kernel
theorem dX11_reading_41 : decode cX11_reading 41 = .ok (.iload_n 3, 1) := by decide +kernel
theorem dX11_reading_42 : decode cX11_reading 42 = .ok (.ifCond .eq 5, 3) := by decide +kernel
theorem dX11_reading_45 : decode cX11_reading 45 = .ok (.iload_n 3, 1) := by decide +kernel
theorem dX11_reading_46 : decode cX11_reading 46 = .ok (.ireturn, 1) := by decide +kernel
theorem dX11_reading_47 : decode cX11_reading 47 = .ok (.aload_n 0, 1) := by decide +kernel
theorem dX11_reading_48 : decode cX11_reading 48 = .ok (.getfield 77, 3) := by decide +kernel
theorem dX11_reading_51 : decode cX11_reading 51 = .ok (.getfield 261, 3) := by decide +kernel
theorem dX11_reading_54 : decode cX11_reading 54 = .ok (.iload_n 1, 1) := by decide +kernel
theorem dX11_reading_55 : decode cX11_reading 55 = .ok (.iload_n 2, 1) := by decide +kernel
theorem dX11_reading_56 : decode cX11_reading 56 = .ok (.iastore, 1) := by decide +kernel
theorem dX11_reading_57 : decode cX11_reading 57 = .ok (.iconst 1, 1) := by decide +kernel
theorem dX11_reading_58 : decode cX11_reading 58 = .ok (.ireturn, 1) := by decide +kernel
theorem dX11_trueGas_0 : decode cX11_trueGas 0 = .ok (.aload_n 0, 1) := by decide +kernel
theorem dX11_trueGas_1 : decode cX11_trueGas 1 = .ok (.iconst 0, 1) := by decide +kernel
theorem dX11_trueGas_2 : decode cX11_trueGas 2 = .ok (.iload_n 2, 1) := by decide +kernel
theorem dX11_trueGas_3 : decode cX11_trueGas 3 = .ok (.bipush 8, 2) := by decide +kernel
theorem dX11_trueGas_5 : decode cX11_trueGas 5 = .ok (.invokestatic 99, 3) := by decide +kernel
theorem dX11_trueGas_8 : decode cX11_trueGas 8 = .ok (.ifCond .ne 7, 3) := by decide +kernel
theorem dX11_trueGas_11 : decode cX11_trueGas 11 = .ok (.iconst 1, 1) := by decide +kernel
theorem dX11_trueGas_12 : decode cX11_trueGas 12 = .ok (.goto 4, 3) := by decide +kernel
theorem dX11_trueGas_15 : decode cX11_trueGas 15 = .ok (.iconst 0, 1) := by decide +kernel
theorem dX11_trueGas_16 : decode cX11_trueGas 16 = .ok (.iload_n 1, 1) := by decide +kernel
theorem dX11_trueGas_17 : decode cX11_trueGas 17 = .ok (.ifCond .ge 7, 3) := by decide +kernel
theorem dX11_trueGas_20 : decode cX11_trueGas 20 = .ok (.iconst 1, 1) := by decide +kernel
theorem dX11_trueGas_21 : decode cX11_trueGas 21 = .ok (.goto 4, 3) := by decide +kernel
theorem dX11_trueGas_24 : decode cX11_trueGas 24 = .ok (.iconst 0, 1) := by decide +kernel
theorem dX11_trueGas_25 : decode cX11_trueGas 25 = .ok (.iload_n 1, 1) := by decide +kernel
theorem dX11_trueGas_26 : decode cX11_trueGas 26 = .ok (.bipush 9, 2) := by decide +kernel
theorem dX11_trueGas_28 : decode cX11_trueGas 28 = .ok (.if_icmp .le 7, 3) := by decide +kernel
theorem dX11_trueGas_31 : decode cX11_trueGas 31 = .ok (.iconst 1, 1) := by decide +kernel
theorem dX11_trueGas_32 : decode cX11_trueGas 32 = .ok (.goto 4, 3) := by decide +kernel
theorem dX11_trueGas_35 : decode cX11_trueGas 35 = .ok (.iconst 0, 1) := by decide +kernel
theorem dX11_trueGas_36 : decode cX11_trueGas 36 = .ok (.invokevirtual 107, 3) := by decide +kernel
theorem dX11_trueGas_39 : decode cX11_trueGas 39 = .ok (.istore_n 3, 1) := by decide +kernel
theorem dX11_trueGas_40 : decode cX11_trueGas 40 = .ok (.iload_n 3, 1) := by decide +kernel
theorem dX11_trueGas_41 : decode cX11_trueGas 41 = .ok (.ifCond .eq 5, 3) := by decide +kernel
theorem dX11_trueGas_44 : decode cX11_trueGas 44 = .ok (.iload_n 3, 1) := by decide +kernel
theorem dX11_trueGas_45 : decode cX11_trueGas 45 = .ok (.ireturn, 1) := by decide +kernel
theorem dX11_trueGas_46 : decode cX11_trueGas 46 = .ok (.iload_n 2, 1) := by decide +kernel
theorem dX11_trueGas_47 : decode cX11_trueGas 47 = .ok (.bipush 7, 2) := by decide +kernel
theorem dX11_trueGas_49 : decode cX11_trueGas 49 = .ok (.if_icmp .ne 13, 3) := by decide +kernel
theorem dX11_trueGas_52 : decode cX11_trueGas 52 = .ok (.aload_n 0, 1) := by decide +kernel
theorem dX11_trueGas_53 : decode cX11_trueGas 53 = .ok (.getfield 77, 3) := by decide +kernel
theorem dX11_trueGas_56 : decode cX11_trueGas 56 = .ok (.invokevirtual 264, 3) := by decide +kernel
theorem dX11_trueGas_59 : decode cX11_trueGas 59 = .ok (.goto 12, 3) := by decide +kernel
theorem dX11_trueGas_62 : decode cX11_trueGas 62 = .ok (.aload_n 0, 1) := by decide +kernel
theorem dX11_trueGas_63 : decode cX11_trueGas 63 = .ok (.getfield 77, 3) := by decide +kernel
theorem dX11_trueGas_66 : decode cX11_trueGas 66 = .ok (.iload_n 1, 1) := by decide +kernel
theorem dX11_trueGas_67 : decode cX11_trueGas 67 = .ok (.iload_n 2, 1) := by decide +kernel
theorem dX11_trueGas_68 : decode cX11_trueGas 68 = .ok (.invokevirtual 268, 3) := by decide +kernel
theorem dX11_trueGas_71 : decode cX11_trueGas 71 = .ok (.ireturn, 1) := by decide +kernel
theorem dX11_stage_0 : decode cX11_stage 0 = .ok (.aload_n 0, 1) := by decide +kernel
theorem dX11_stage_1 : decode cX11_stage 1 = .ok (.iload_n 1, 1) := by decide +kernel
theorem dX11_stage_2 : decode cX11_stage 2 = .ok (.iconst 4, 1) := by decide +kernel
theorem dX11_stage_3 : decode cX11_stage 3 = .ok (.invokestatic 99, 3) := by decide +kernel
theorem dX11_stage_6 : decode cX11_stage 6 = .ok (.ifCond .ne 7, 3) := by decide +kernel
theorem dX11_stage_9 : decode cX11_stage 9 = .ok (.iconst 1, 1) := by decide +kernel
theorem dX11_stage_10 : decode cX11_stage 10 = .ok (.goto 4, 3) := by decide +kernel
theorem dX11_stage_13 : decode cX11_stage 13 = .ok (.iconst 0, 1) := by decide +kernel
theorem dX11_stage_14 : decode cX11_stage 14 = .ok (.iconst 0, 1) := by decide +kernel
theorem dX11_stage_15 : decode cX11_stage 15 = .ok (.iload_n 2, 1) := by decide +kernel
theorem dX11_stage_16 : decode cX11_stage 16 = .ok (.ifCond .lt 18, 3) := by decide +kernel
theorem dX11_stage_19 : decode cX11_stage 19 = .ok (.iload_n 3, 1) := by decide +kernel
theorem dX11_stage_20 : decode cX11_stage 20 = .ok (.iconst 1, 1) := by decide +kernel
theorem dX11_stage_21 : decode cX11_stage 21 = .ok (.if_icmp .lt 13, 3) := by decide +kernel
theorem dX11_stage_24 : decode cX11_stage 24 = .ok (.iload 4, 2) := by decide +kernel
theorem dX11_stage_26 : decode cX11_stage 26 = .ok (.ifCond .lt 8, 3) := by decide +kernel
theorem dX11_stage_29 : decode cX11_stage 29 = .ok (.iload 5, 2) := by decide +kernel
theorem dX11_stage_31 : decode cX11_stage 31 = .ok (.ifCond .ge 7, 3) := by decide +kernel
theorem dX11_stage_34 : decode cX11_stage 34 = .ok (.iconst 1, 1) := by decide +kernel
theorem dX11_stage_35 : decode cX11_stage 35 = .ok (.goto 4, 3) := by decide +kernel
theorem dX11_stage_38 : decode cX11_stage 38 = .ok (.iconst 0, 1) := by decide +kernel
theorem dX11_stage_39 : decode cX11_stage 39 = .ok (.iload_n 2, 1) := by decide +kernel
theorem dX11_stage_40 : decode cX11_stage 40 = .ok (.sipush 299, 3) := by decide +kernel
theorem dX11_stage_43 : decode cX11_stage 43 = .ok (.if_icmp .gt 24, 3) := by decide +kernel
theorem dX11_stage_46 : decode cX11_stage 46 = .ok (.iload_n 3, 1) := by decide +kernel
theorem dX11_stage_47 : decode cX11_stage 47 = .ok (.bipush 99, 2) := by decide +kernel
theorem dX11_stage_49 : decode cX11_stage 49 = .ok (.if_icmp .gt 18, 3) := by decide +kernel
theorem dX11_stage_52 : decode cX11_stage 52 = .ok (.iload 4, 2) := by decide +kernel
theorem dX11_stage_54 : decode cX11_stage 54 = .ok (.bipush 99, 2) := by decide +kernel
theorem dX11_stage_56 : decode cX11_stage 56 = .ok (.if_icmp .gt 11, 3) := by decide +kernel
theorem dX11_stage_59 : decode cX11_stage 59 = .ok (.iload 5, 2) := by decide +kernel
theorem dX11_stage_61 : decode cX11_stage 61 = .ok (.sipush 9999, 3) := by decide +kernel
theorem dX11_stage_64 : decode cX11_stage 64 = .ok (.if_icmp .le 7, 3) := by decide +kernel
theorem dX11_stage_67 : decode cX11_stage 67 = .ok (.iconst 1, 1) := by decide +kernel
theorem dX11_stage_68 : decode cX11_stage 68 = .ok (.goto 4, 3) := by decide +kernel
theorem dX11_stage_71 : decode cX11_stage 71 = .ok (.iconst 0, 1) := by decide +kernel
theorem dX11_stage_72 : decode cX11_stage 72 = .ok (.invokevirtual 107, 3) := by decide +kernel
theorem dX11_stage_75 : decode cX11_stage 75 = .ok (.istore 6, 2) := by decide +kernel
theorem dX11_stage_77 : decode cX11_stage 77 = .ok (.iload 6, 2) := by decide +kernel
theorem dX11_stage_79 : decode cX11_stage 79 = .ok (.ifCond .eq 6, 3) := by decide +kernel
theorem dX11_stage_82 : decode cX11_stage 82 = .ok (.iload 6, 2) := by decide +kernel
theorem dX11_stage_84 : decode cX11_stage 84 = .ok (.ireturn, 1) := by decide +kernel
theorem dX11_stage_85 : decode cX11_stage 85 = .ok (.aload_n 0, 1) := by decide +kernel
theorem dX11_stage_86 : decode cX11_stage 86 = .ok (.getfield 84, 3) := by decide +kernel
theorem dX11_stage_89 : decode cX11_stage 89 = .ok (.iload_n 1, 1) := by decide +kernel
theorem dX11_stage_90 : decode cX11_stage 90 = .ok (.iload_n 2, 1) := by decide +kernel
theorem dX11_stage_91 : decode cX11_stage 91 = .ok (.iload_n 3, 1) := by decide +kernel
theorem dX11_stage_92 : decode cX11_stage 92 = .ok (.iload 4, 2) := by decide +kernel
theorem dX11_stage_94 : decode cX11_stage 94 = .ok (.iload 5, 2) := by decide +kernel
theorem dX11_stage_96 : decode cX11_stage 96 = .ok (.invokevirtual 271, 3) := by decide +kernel
theorem dX11_stage_99 : decode cX11_stage 99 = .ok (.iconst 1, 1) := by decide +kernel
theorem dX11_stage_100 : decode cX11_stage 100 = .ok (.ireturn, 1) := by decide +kernel
theorem dX11_restCold_0 : decode cX11_restCold 0 = .ok (.iload_n 1, 1) := by decide +kernel
theorem dX11_restCold_1 : decode cX11_restCold 1 = .ok (.iconst 4, 1) := by decide +kernel
theorem dX11_restCold_2 : decode cX11_restCold 2 = .ok (.invokestatic 99, 3) := by decide +kernel
theorem dX11_restCold_5 : decode cX11_restCold 5 = .ok (.ifCond .eq 14, 3) := by decide +kernel
theorem dX11_restCold_8 : decode cX11_restCold 8 = .ok (.aload_n 0, 1) := by decide +kernel
theorem dX11_restCold_9 : decode cX11_restCold 9 = .ok (.getfield 84, 3) := by decide +kernel
theorem dX11_restCold_12 : decode cX11_restCold 12 = .ok (.iload_n 1, 1) := by decide +kernel
theorem dX11_restCold_13 : decode cX11_restCold 13 = .ok (.invokevirtual 274, 3) := by decide +kernel
theorem dX11_restCold_16 : decode cX11_restCold 16 = .ok (.goto 8, 3) := by decide +kernel
theorem dX11_restCold_19 : decode cX11_restCold 19 = .ok (.aload_n 0, 1) := by decide +kernel
theorem dX11_restCold_20 : decode cX11_restCold 20 = .ok (.iconst (-1), 1) := by decide +kernel
theorem dX11_restCold_21 : decode cX11_restCold 21 = .ok (.invokevirtual 193, 3) := by decide +kernel
theorem dX11_restCold_24 : decode cX11_restCold 24 = .ok (.ireturn, 1) := by decide +kernel
theorem dX11_load_0 : decode cX11_load 0 = .ok (.aload_n 0, 1) := by decide +kernel
theorem dX11_load_1 : decode cX11_load 1 = .ok (.iload_n 1, 1) := by decide +kernel
theorem dX11_load_2 : decode cX11_load 2 = .ok (.iconst 4, 1) := by decide +kernel
theorem dX11_load_3 : decode cX11_load 3 = .ok (.invokestatic 99, 3) := by decide +kernel
theorem dX11_load_6 : decode cX11_load 6 = .ok (.ifCond .ne 7, 3) := by decide +kernel
theorem dX11_load_9 : decode cX11_load 9 = .ok (.iconst 1, 1) := by decide +kernel
theorem dX11_load_10 : decode cX11_load 10 = .ok (.goto 4, 3) := by decide +kernel
theorem dX11_load_13 : decode cX11_load 13 = .ok (.iconst 0, 1) := by decide +kernel
theorem dX11_load_14 : decode cX11_load 14 = .ok (.iconst 0, 1) := by decide +kernel
theorem dX11_load_15 : decode cX11_load 15 = .ok (.iload_n 2, 1) := by decide +kernel
theorem dX11_load_16 : decode cX11_load 16 = .ok (.ifCond .ge 7, 3) := by decide +kernel
theorem dX11_load_19 : decode cX11_load 19 = .ok (.iconst 1, 1) := by decide +kernel
theorem dX11_load_20 : decode cX11_load 20 = .ok (.goto 4, 3) := by decide +kernel
theorem dX11_load_23 : decode cX11_load 23 = .ok (.iconst 0, 1) := by decide +kernel
theorem dX11_load_24 : decode cX11_load 24 = .ok (.iload_n 2, 1) := by decide +kernel
theorem dX11_load_25 : decode cX11_load 25 = .ok (.sipush 300, 3) := by decide +kernel
theorem dX11_load_28 : decode cX11_load 28 = .ok (.if_icmp .le 7, 3) := by decide +kernel
theorem dX11_load_31 : decode cX11_load 31 = .ok (.iconst 1, 1) := by decide +kernel
theorem dX11_load_32 : decode cX11_load 32 = .ok (.goto 4, 3) := by decide +kernel
theorem dX11_load_35 : decode cX11_load 35 = .ok (.iconst 0, 1) := by decide +kernel
theorem dX11_load_36 : decode cX11_load 36 = .ok (.invokevirtual 107, 3) := by decide +kernel
theorem dX11_load_39 : decode cX11_load 39 = .ok (.istore_n 3, 1) := by decide +kernel
theorem dX11_load_40 : decode cX11_load 40 = .ok (.iload_n 3, 1) := by decide +kernel
theorem dX11_load_41 : decode cX11_load 41 = .ok (.ifCond .eq 7, 3) := by decide +kernel
theorem dX11_load_44 : decode cX11_load 44 = .ok (.iload_n 3, 1) := by decide +kernel
theorem dX11_load_45 : decode cX11_load 45 = .ok (.goto 12, 3) := by decide +kernel
theorem dX11_load_48 : decode cX11_load 48 = .ok (.aload_n 0, 1) := by decide +kernel
theorem dX11_load_49 : decode cX11_load 49 = .ok (.getfield 84, 3) := by decide +kernel
theorem dX11_load_52 : decode cX11_load 52 = .ok (.iload_n 1, 1) := by decide +kernel
theorem dX11_load_53 : decode cX11_load 53 = .ok (.iload_n 2, 1) := by decide +kernel
theorem dX11_load_54 : decode cX11_load 54 = .ok (.invokevirtual 277, 3) := by decide +kernel
theorem dX11_load_57 : decode cX11_load 57 = .ok (.ireturn, 1) := by decide +kernel
theorem dX11_late_0 : decode cX11_late 0 = .ok (.aload_n 0, 1) := by decide +kernel
theorem dX11_late_1 : decode cX11_late 1 = .ok (.iload_n 1, 1) := by decide +kernel
theorem dX11_late_2 : decode cX11_late 2 = .ok (.bipush 8, 2) := by decide +kernel
theorem dX11_late_4 : decode cX11_late 4 = .ok (.invokestatic 99, 3) := by decide +kernel
theorem dX11_late_7 : decode cX11_late 7 = .ok (.ifCond .ne 7, 3) := by decide +kernel
theorem dX11_late_10 : decode cX11_late 10 = .ok (.iconst 1, 1) := by decide +kernel
theorem dX11_late_11 : decode cX11_late 11 = .ok (.goto 4, 3) := by decide +kernel
theorem dX11_late_14 : decode cX11_late 14 = .ok (.iconst 0, 1) := by decide +kernel
theorem dX11_late_15 : decode cX11_late 15 = .ok (.iconst 0, 1) := by decide +kernel
theorem dX11_late_16 : decode cX11_late 16 = .ok (.iload_n 2, 1) := by decide +kernel
theorem dX11_late_17 : decode cX11_late 17 = .ok (.ifCond .ge 7, 3) := by decide +kernel
theorem dX11_late_20 : decode cX11_late 20 = .ok (.iconst 1, 1) := by decide +kernel
theorem dX11_late_21 : decode cX11_late 21 = .ok (.goto 4, 3) := by decide +kernel
theorem dX11_late_24 : decode cX11_late 24 = .ok (.iconst 0, 1) := by decide +kernel
theorem dX11_late_25 : decode cX11_late 25 = .ok (.iload_n 2, 1) := by decide +kernel
theorem dX11_late_26 : decode cX11_late 26 = .ok (.bipush 20, 2) := by decide +kernel
theorem dX11_late_28 : decode cX11_late 28 = .ok (.if_icmp .le 7, 3) := by decide +kernel
theorem dX11_late_31 : decode cX11_late 31 = .ok (.iconst 1, 1) := by decide +kernel
theorem dX11_late_32 : decode cX11_late 32 = .ok (.goto 4, 3) := by decide +kernel
theorem dX11_late_35 : decode cX11_late 35 = .ok (.iconst 0, 1) := by decide +kernel
theorem dX11_late_36 : decode cX11_late 36 = .ok (.invokevirtual 107, 3) := by decide +kernel
theorem dX11_late_39 : decode cX11_late 39 = .ok (.istore_n 3, 1) := by decide +kernel
theorem dX11_late_40 : decode cX11_late 40 = .ok (.iload_n 3, 1) := by decide +kernel
theorem dX11_late_41 : decode cX11_late 41 = .ok (.ifCond .eq 5, 3) := by decide +kernel
theorem dX11_late_44 : decode cX11_late 44 = .ok (.iload_n 3, 1) := by decide +kernel
theorem dX11_late_45 : decode cX11_late 45 = .ok (.ireturn, 1) := by decide +kernel
theorem dX11_late_46 : decode cX11_late 46 = .ok (.aload_n 0, 1) := by decide +kernel
theorem dX11_late_47 : decode cX11_late 47 = .ok (.getfield 91, 3) := by decide +kernel
theorem dX11_late_50 : decode cX11_late 50 = .ok (.getfield 280, 3) := by decide +kernel
theorem dX11_late_53 : decode cX11_late 53 = .ok (.iload_n 1, 1) := by decide +kernel
theorem dX11_late_54 : decode cX11_late 54 = .ok (.iaload, 1) := by decide +kernel
theorem dX11_late_55 : decode cX11_late 55 = .ok (.istore 4, 2) := by decide +kernel
theorem dX11_late_57 : decode cX11_late 57 = .ok (.aload_n 0, 1) := by decide +kernel
theorem dX11_late_58 : decode cX11_late 58 = .ok (.getfield 91, 3) := by decide +kernel
theorem dX11_late_61 : decode cX11_late 61 = .ok (.getfield 280, 3) := by decide +kernel
theorem dX11_late_64 : decode cX11_late 64 = .ok (.iload_n 1, 1) := by decide +kernel
theorem dX11_late_65 : decode cX11_late 65 = .ok (.iload_n 2, 1) := by decide +kernel
theorem dX11_late_66 : decode cX11_late 66 = .ok (.iastore, 1) := by decide +kernel
theorem dX11_late_67 : decode cX11_late 67 = .ok (.iload 4, 2) := by decide +kernel
theorem dX11_late_69 : decode cX11_late 69 = .ok (.ireturn, 1) := by decide +kernel
theorem dX11_spray_0 : decode cX11_spray 0 = .ok (.aload_n 0, 1) := by decide +kernel
theorem dX11_spray_1 : decode cX11_spray 1 = .ok (.iload_n 1, 1) := by decide +kernel
theorem dX11_spray_2 : decode cX11_spray 2 = .ok (.bipush 8, 2) := by decide +kernel
theorem dX11_spray_4 : decode cX11_spray 4 = .ok (.invokestatic 99, 3) := by decide +kernel
theorem dX11_spray_7 : decode cX11_spray 7 = .ok (.ifCond .ne 7, 3) := by decide +kernel
theorem dX11_spray_10 : decode cX11_spray 10 = .ok (.iconst 1, 1) := by decide +kernel
theorem dX11_spray_11 : decode cX11_spray 11 = .ok (.goto 4, 3) := by decide +kernel
theorem dX11_spray_14 : decode cX11_spray 14 = .ok (.iconst 0, 1) := by decide +kernel
theorem dX11_spray_15 : decode cX11_spray 15 = .ok (.iconst 0, 1) := by decide +kernel
theorem dX11_spray_16 : decode cX11_spray 16 = .ok (.iload_n 2, 1) := by decide +kernel
theorem dX11_spray_17 : decode cX11_spray 17 = .ok (.ifCond .ge 7, 3) := by decide +kernel
theorem dX11_spray_20 : decode cX11_spray 20 = .ok (.iconst 1, 1) := by decide +kernel
theorem dX11_spray_21 : decode cX11_spray 21 = .ok (.goto 4, 3) := by decide +kernel
theorem dX11_spray_24 : decode cX11_spray 24 = .ok (.iconst 0, 1) := by decide +kernel
theorem dX11_spray_25 : decode cX11_spray 25 = .ok (.iload_n 2, 1) := by decide +kernel
theorem dX11_spray_26 : decode cX11_spray 26 = .ok (.sipush 9999, 3) := by decide +kernel
theorem dX11_spray_29 : decode cX11_spray 29 = .ok (.if_icmp .gt 15, 3) := by decide +kernel
theorem dX11_spray_32 : decode cX11_spray 32 = .ok (.aload_n 0, 1) := by decide +kernel
theorem dX11_spray_33 : decode cX11_spray 33 = .ok (.getfield 91, 3) := by decide +kernel
theorem dX11_spray_36 : decode cX11_spray 36 = .ok (.getfield 283, 3) := by decide +kernel
theorem dX11_spray_39 : decode cX11_spray 39 = .ok (.bipush 20, 2) := by decide +kernel
theorem dX11_spray_41 : decode cX11_spray 41 = .ok (.if_icmp .lt 7, 3) := by decide +kernel
theorem dX11_spray_44 : decode cX11_spray 44 = .ok (.iconst 1, 1) := by decide +kernel
theorem dX11_spray_45 : decode cX11_spray 45 = .ok (.goto 4, 3) := by decide +kernel
theorem dX11_spray_48 : decode cX11_spray 48 = .ok (.iconst 0, 1) := by decide +kernel
theorem dX11_spray_49 : decode cX11_spray 49 = .ok (.invokevirtual 107, 3) := by decide +kernel
theorem dX11_spray_52 : decode cX11_spray 52 = .ok (.istore_n 3, 1) := by decide +kernel
theorem dX11_spray_53 : decode cX11_spray 53 = .ok (.iload_n 3, 1) := by decide +kernel
theorem dX11_spray_54 : decode cX11_spray 54 = .ok (.ifCond .eq 7, 3) := by decide +kernel
theorem dX11_spray_57 : decode cX11_spray 57 = .ok (.iload_n 3, 1) := by decide +kernel
theorem dX11_spray_58 : decode cX11_spray 58 = .ok (.goto 12, 3) := by decide +kernel
theorem dX11_spray_61 : decode cX11_spray 61 = .ok (.aload_n 0, 1) := by decide +kernel
theorem dX11_spray_62 : decode cX11_spray 62 = .ok (.getfield 91, 3) := by decide +kernel
theorem dX11_spray_65 : decode cX11_spray 65 = .ok (.iload_n 1, 1) := by decide +kernel
theorem dX11_spray_66 : decode cX11_spray 66 = .ok (.iload_n 2, 1) := by decide +kernel
theorem dX11_spray_67 : decode cX11_spray 67 = .ok (.invokevirtual 286, 3) := by decide +kernel
theorem dX11_spray_70 : decode cX11_spray 70 = .ok (.ireturn, 1) := by decide +kernel
theorem dX11_seen_0 : decode cX11_seen 0 = .ok (.aload_n 0, 1) := by decide +kernel
theorem dX11_seen_1 : decode cX11_seen 1 = .ok (.iconst 0, 1) := by decide +kernel
theorem dX11_seen_2 : decode cX11_seen 2 = .ok (.iconst 0, 1) := by decide +kernel
theorem dX11_seen_3 : decode cX11_seen 3 = .ok (.iload_n 1, 1) := by decide +kernel
theorem dX11_seen_4 : decode cX11_seen 4 = .ok (.ifCond .ge 7, 3) := by decide +kernel
theorem dX11_seen_7 : decode cX11_seen 7 = .ok (.iconst 1, 1) := by decide +kernel
theorem dX11_seen_8 : decode cX11_seen 8 = .ok (.goto 4, 3) := by decide +kernel
theorem dX11_seen_11 : decode cX11_seen 11 = .ok (.iconst 0, 1) := by decide +kernel
theorem dX11_seen_12 : decode cX11_seen 12 = .ok (.iload_n 1, 1) := by decide +kernel
theorem dX11_seen_13 : decode cX11_seen 13 = .ok (.sipush 9999, 3) := by decide +kernel
theorem dX11_seen_16 : decode cX11_seen 16 = .ok (.if_icmp .gt 15, 3) := by decide +kernel
theorem dX11_seen_19 : decode cX11_seen 19 = .ok (.aload_n 0, 1) := by decide +kernel
theorem dX11_seen_20 : decode cX11_seen 20 = .ok (.getfield 91, 3) := by decide +kernel
theorem dX11_seen_23 : decode cX11_seen 23 = .ok (.getfield 289, 3) := by decide +kernel
theorem dX11_seen_26 : decode cX11_seen 26 = .ok (.bipush 20, 2) := by decide +kernel
theorem dX11_seen_28 : decode cX11_seen 28 = .ok (.if_icmp .lt 7, 3) := by decide +kernel
theorem dX11_seen_31 : decode cX11_seen 31 = .ok (.iconst 1, 1) := by decide +kernel
theorem dX11_seen_32 : decode cX11_seen 32 = .ok (.goto 4, 3) := by decide +kernel
theorem dX11_seen_35 : decode cX11_seen 35 = .ok (.iconst 0, 1) := by decide +kernel
theorem dX11_seen_36 : decode cX11_seen 36 = .ok (.invokevirtual 107, 3) := by decide +kernel
theorem dX11_seen_39 : decode cX11_seen 39 = .ok (.istore_n 3, 1) := by decide +kernel
theorem dX11_seen_40 : decode cX11_seen 40 = .ok (.iload_n 3, 1) := by decide +kernel
theorem dX11_seen_41 : decode cX11_seen 41 = .ok (.ifCond .eq 7, 3) := by decide +kernel
theorem dX11_seen_44 : decode cX11_seen 44 = .ok (.iload_n 3, 1) := by decide +kernel
theorem dX11_seen_45 : decode cX11_seen 45 = .ok (.goto 12, 3) := by decide +kernel
theorem dX11_seen_48 : decode cX11_seen 48 = .ok (.aload_n 0, 1) := by decide +kernel
theorem dX11_seen_49 : decode cX11_seen 49 = .ok (.getfield 91, 3) := by decide +kernel
theorem dX11_seen_52 : decode cX11_seen 52 = .ok (.iload_n 1, 1) := by decide +kernel
theorem dX11_seen_53 : decode cX11_seen 53 = .ok (.iload_n 2, 1) := by decide +kernel
theorem dX11_seen_54 : decode cX11_seen 54 = .ok (.invokevirtual 292, 3) := by decide +kernel
theorem dX11_seen_57 : decode cX11_seen 57 = .ok (.ireturn, 1) := by decide +kernel
theorem dX11_anew_0 : decode cX11_anew 0 = .ok (.aload_n 0, 1) := by decide +kernel
theorem dX11_anew_1 : decode cX11_anew 1 = .ok (.getfield 91, 3) := by decide +kernel
theorem dX11_anew_4 : decode cX11_anew 4 = .ok (.getfield 283, 3) := by decide +kernel
theorem dX11_anew_7 : decode cX11_anew 7 = .ok (.aload_n 0, 1) := by decide +kernel
theorem dX11_anew_8 : decode cX11_anew 8 = .ok (.getfield 91, 3) := by decide +kernel
theorem dX11_anew_11 : decode cX11_anew 11 = .ok (.getfield 289, 3) := by decide +kernel
theorem dX11_anew_14 : decode cX11_anew 14 = .ok (.iadd, 1) := by decide +kernel
theorem dX11_anew_15 : decode cX11_anew 15 = .ok (.istore_n 1, 1) := by decide +kernel
theorem dX11_anew_16 : decode cX11_anew 16 = .ok (.aload_n 0, 1) := by decide +kernel
theorem dX11_anew_17 : decode cX11_anew 17 = .ok (.getfield 91, 3) := by decide +kernel
theorem dX11_anew_20 : decode cX11_anew 20 = .ok (.iconst 0, 1) := by decide +kernel
theorem dX11_anew_21 : decode cX11_anew 21 = .ok (.putfield 283, 3) := by decide +kernel
theorem dX11_anew_24 : decode cX11_anew 24 = .ok (.aload_n 0, 1) := by decide +kernel
theorem dX11_anew_25 : decode cX11_anew 25 = .ok (.getfield 91, 3) := by decide +kernel
theorem dX11_anew_28 : decode cX11_anew 28 = .ok (.iconst 0, 1) := by decide +kernel
theorem dX11_anew_29 : decode cX11_anew 29 = .ok (.putfield 289, 3) := by decide +kernel
theorem dX11_anew_32 : decode cX11_anew 32 = .ok (.iload_n 1, 1) := by decide +kernel
theorem dX11_anew_33 : decode cX11_anew 33 = .ok (.ireturn, 1) := by decide +kernel
theorem dX11_hunt_0 : decode cX11_hunt 0 = .ok (.iload_n 1, 1) := by decide +kernel
theorem dX11_hunt_1 : decode cX11_hunt 1 = .ok (.iconst 4, 1) := by decide +kernel
theorem dX11_hunt_2 : decode cX11_hunt 2 = .ok (.invokestatic 99, 3) := by decide +kernel
theorem dX11_hunt_5 : decode cX11_hunt 5 = .ok (.ifCond .eq 14, 3) := by decide +kernel
theorem dX11_hunt_8 : decode cX11_hunt 8 = .ok (.aload_n 0, 1) := by decide +kernel
theorem dX11_hunt_9 : decode cX11_hunt 9 = .ok (.getfield 91, 3) := by decide +kernel
theorem dX11_hunt_12 : decode cX11_hunt 12 = .ok (.iload_n 1, 1) := by decide +kernel
theorem dX11_hunt_13 : decode cX11_hunt 13 = .ok (.invokevirtual 296, 3) := by decide +kernel
theorem dX11_hunt_16 : decode cX11_hunt 16 = .ok (.goto 9, 3) := by decide +kernel
theorem dX11_hunt_19 : decode cX11_hunt 19 = .ok (.aload_n 0, 1) := by decide +kernel
theorem dX11_hunt_20 : decode cX11_hunt 20 = .ok (.bipush (-2), 2) := by decide +kernel
theorem dX11_hunt_22 : decode cX11_hunt 22 = .ok (.invokevirtual 193, 3) := by decide +kernel
theorem dX11_hunt_25 : decode cX11_hunt 25 = .ok (.ireturn, 1) := by decide +kernel
theorem dX11_odds_0 : decode cX11_odds 0 = .ok (.aload_n 0, 1) := by decide +kernel
theorem dX11_odds_1 : decode cX11_odds 1 = .ok (.iconst 0, 1) := by decide +kernel
theorem dX11_odds_2 : decode cX11_odds 2 = .ok (.iload 5, 2) := by decide +kernel
theorem dX11_odds_4 : decode cX11_odds 4 = .ok (.iconst 2, 1) := by decide +kernel
theorem dX11_odds_5 : decode cX11_odds 5 = .ok (.invokestatic 99, 3) := by decide +kernel
theorem dX11_odds_8 : decode cX11_odds 8 = .ok (.ifCond .ne 7, 3) := by decide +kernel
theorem dX11_odds_11 : decode cX11_odds 11 = .ok (.iconst 1, 1) := by decide +kernel
theorem dX11_odds_12 : decode cX11_odds 12 = .ok (.goto 4, 3) := by decide +kernel
theorem dX11_odds_15 : decode cX11_odds 15 = .ok (.iconst 0, 1) := by decide +kernel
theorem dX11_odds_16 : decode cX11_odds 16 = .ok (.iload_n 1, 1) := by decide +kernel
theorem dX11_odds_17 : decode cX11_odds 17 = .ok (.iconst 1, 1) := by decide +kernel
theorem dX11_odds_18 : decode cX11_odds 18 = .ok (.if_icmp .lt 16, 3) := by decide +kernel
theorem dX11_odds_21 : decode cX11_odds 21 = .ok (.iload_n 2, 1) := by decide +kernel
theorem dX11_odds_22 : decode cX11_odds 22 = .ok (.ifCond .lt 12, 3) := by decide +kernel
theorem dX11_odds_25 : decode cX11_odds 25 = .ok (.iload_n 3, 1) := by decide +kernel
theorem dX11_odds_26 : decode cX11_odds 26 = .ok (.ifCond .lt 8, 3) := by decide +kernel
theorem dX11_odds_29 : decode cX11_odds 29 = .ok (.iload 4, 2) := by decide +kernel
theorem dX11_odds_31 : decode cX11_odds 31 = .ok (.ifCond .ge 7, 3) := by decide +kernel
theorem dX11_odds_34 : decode cX11_odds 34 = .ok (.iconst 1, 1) := by decide +kernel
theorem dX11_odds_35 : decode cX11_odds 35 = .ok (.goto 4, 3) := by decide +kernel
theorem dX11_odds_38 : decode cX11_odds 38 = .ok (.iconst 0, 1) := by decide +kernel
theorem dX11_odds_39 : decode cX11_odds 39 = .ok (.iload_n 1, 1) := by decide +kernel
theorem dX11_odds_40 : decode cX11_odds 40 = .ok (.bipush 30, 2) := by decide +kernel
theorem dX11_odds_42 : decode cX11_odds 42 = .ok (.if_icmp .gt 25, 3) := by decide +kernel
theorem dX11_odds_45 : decode cX11_odds 45 = .ok (.iload_n 2, 1) := by decide +kernel
theorem dX11_odds_46 : decode cX11_odds 46 = .ok (.iload_n 1, 1) := by decide +kernel
theorem dX11_odds_47 : decode cX11_odds 47 = .ok (.if_icmp .gt 20, 3) := by decide +kernel
theorem dX11_odds_50 : decode cX11_odds 50 = .ok (.iload_n 3, 1) := by decide +kernel
theorem dX11_odds_51 : decode cX11_odds 51 = .ok (.bipush 20, 2) := by decide +kernel
theorem dX11_odds_53 : decode cX11_odds 53 = .ok (.if_icmp .gt 14, 3) := by decide +kernel
theorem dX11_odds_56 : decode cX11_odds 56 = .ok (.iload_n 3, 1) := by decide +kernel
theorem dX11_odds_57 : decode cX11_odds 57 = .ok (.iload_n 1, 1) := by decide +kernel
theorem dX11_odds_58 : decode cX11_odds 58 = .ok (.if_icmp .gt 9, 3) := by decide +kernel
theorem dX11_odds_61 : decode cX11_odds 61 = .ok (.iload 4, 2) := by decide +kernel
theorem dX11_odds_63 : decode cX11_odds 63 = .ok (.iload_n 3, 1) := by decide +kernel
theorem dX11_odds_64 : decode cX11_odds 64 = .ok (.if_icmp .le 7, 3) := by decide +kernel
theorem dX11_odds_67 : decode cX11_odds 67 = .ok (.iconst 1, 1) := by decide +kernel
theorem dX11_odds_68 : decode cX11_odds 68 = .ok (.goto 4, 3) := by decide +kernel
theorem dX11_odds_71 : decode cX11_odds 71 = .ok (.iconst 0, 1) := by decide +kernel
theorem dX11_odds_72 : decode cX11_odds 72 = .ok (.invokevirtual 107, 3) := by decide +kernel
theorem dX11_odds_75 : decode cX11_odds 75 = .ok (.istore 6, 2) := by decide +kernel
theorem dX11_odds_77 : decode cX11_odds 77 = .ok (.iload 6, 2) := by decide +kernel
theorem dX11_odds_79 : decode cX11_odds 79 = .ok (.ifCond .eq 7, 3) := by decide +kernel
theorem dX11_odds_82 : decode cX11_odds 82 = .ok (.iload 6, 2) := by decide +kernel
theorem dX11_odds_84 : decode cX11_odds 84 = .ok (.i2l, 1) := by decide +kernel
theorem dX11_odds_85 : decode cX11_odds 85 = .ok (.lreturn, 1) := by decide +kernel
theorem dX11_odds_86 : decode cX11_odds 86 = .ok (.iload 5, 2) := by decide +kernel
theorem dX11_odds_88 : decode cX11_odds 88 = .ok (.iconst 1, 1) := by decide +kernel
theorem dX11_odds_89 : decode cX11_odds 89 = .ok (.if_icmp .ne 11, 3) := by decide +kernel
theorem dX11_odds_92 : decode cX11_odds 92 = .ok (.iload_n 1, 1) := by decide +kernel
theorem dX11_odds_93 : decode cX11_odds 93 = .ok (.iload_n 3, 1) := by decide +kernel
theorem dX11_odds_94 : decode cX11_odds 94 = .ok (.invokestatic 299, 3) := by decide +kernel
theorem dX11_odds_97 : decode cX11_odds 97 = .ok (.goto 11, 3) := by decide +kernel
theorem dX11_odds_100 : decode cX11_odds 100 = .ok (.iload_n 1, 1) := by decide +kernel
theorem dX11_odds_101 : decode cX11_odds 101 = .ok (.iload_n 2, 1) := by decide +kernel
theorem dX11_odds_102 : decode cX11_odds 102 = .ok (.iload_n 3, 1) := by decide +kernel
theorem dX11_odds_103 : decode cX11_odds 103 = .ok (.iload 4, 2) := by decide +kernel
theorem dX11_odds_105 : decode cX11_odds 105 = .ok (.invokestatic 303, 3) := by decide +kernel
theorem dX11_odds_108 : decode cX11_odds 108 = .ok (.lreturn, 1) := by decide +kernel
theorem dX11_offer_0 : decode cX11_offer 0 = .ok (.aload_n 0, 1) := by decide +kernel
theorem dX11_offer_1 : decode cX11_offer 1 = .ok (.iload_n 1, 1) := by decide +kernel
theorem dX11_offer_2 : decode cX11_offer 2 = .ok (.aload_n 0, 1) := by decide +kernel
theorem dX11_offer_3 : decode cX11_offer 3 = .ok (.getfield 10, 3) := by decide +kernel
theorem dX11_offer_6 : decode cX11_offer 6 = .ok (.getfield 103, 3) := by decide +kernel
theorem dX11_offer_9 : decode cX11_offer 9 = .ok (.invokestatic 99, 3) := by decide +kernel
theorem dX11_offer_12 : decode cX11_offer 12 = .ok (.ifCond .ne 7, 3) := by decide +kernel
theorem dX11_offer_15 : decode cX11_offer 15 = .ok (.iconst 1, 1) := by decide +kernel
theorem dX11_offer_16 : decode cX11_offer 16 = .ok (.goto 4, 3) := by decide +kernel
theorem dX11_offer_19 : decode cX11_offer 19 = .ok (.iconst 0, 1) := by decide +kernel
theorem dX11_offer_20 : decode cX11_offer 20 = .ok (.iconst 0, 1) := by decide +kernel
theorem dX11_offer_21 : decode cX11_offer 21 = .ok (.iload_n 2, 1) := by decide +kernel
theorem dX11_offer_22 : decode cX11_offer 22 = .ok (.iconst 1, 1) := by decide +kernel
theorem dX11_offer_23 : decode cX11_offer 23 = .ok (.if_icmp .lt 8, 3) := by decide +kernel
theorem dX11_offer_26 : decode cX11_offer 26 = .ok (.iload_n 3, 1) := by decide +kernel
theorem dX11_offer_27 : decode cX11_offer 27 = .ok (.iconst 1, 1) := by decide +kernel
theorem dX11_offer_28 : decode cX11_offer 28 = .ok (.if_icmp .ge 7, 3) := by decide +kernel
theorem dX11_offer_31 : decode cX11_offer 31 = .ok (.iconst 1, 1) := by decide +kernel
theorem dX11_offer_32 : decode cX11_offer 32 = .ok (.goto 4, 3) := by decide +kernel
theorem dX11_offer_35 : decode cX11_offer 35 = .ok (.iconst 0, 1) := by decide +kernel
theorem dX11_offer_36 : decode cX11_offer 36 = .ok (.iload_n 2, 1) := by decide +kernel
theorem dX11_offer_37 : decode cX11_offer 37 = .ok (.bipush 9, 2) := by decide +kernel
theorem dX11_offer_39 : decode cX11_offer 39 = .ok (.if_icmp .gt 22, 3) := by decide +kernel
theorem dX11_offer_42 : decode cX11_offer 42 = .ok (.iload_n 3, 1) := by decide +kernel
theorem dX11_offer_43 : decode cX11_offer 43 = .ok (.sipush 999, 3) := by decide +kernel
theorem dX11_offer_46 : decode cX11_offer 46 = .ok (.if_icmp .gt 15, 3) := by decide +kernel
theorem dX11_offer_49 : decode cX11_offer 49 = .ok (.aload_n 0, 1) := by decide +kernel
theorem dX11_offer_50 : decode cX11_offer 50 = .ok (.getfield 63, 3) := by decide +kernel
theorem dX11_offer_53 : decode cX11_offer 53 = .ok (.getfield 307, 3) := by decide +kernel
theorem dX11_offer_56 : decode cX11_offer 56 = .ok (.bipush 6, 2) := by decide +kernel
theorem dX11_offer_58 : decode cX11_offer 58 = .ok (.if_icmp .lt 7, 3) := by decide +kernel
theorem dX11_offer_61 : decode cX11_offer 61 = .ok (.iconst 1, 1) := by decide +kernel
theorem dX11_offer_62 : decode cX11_offer 62 = .ok (.goto 4, 3) := by decide +kernel
theorem dX11_offer_65 : decode cX11_offer 65 = .ok (.iconst 0, 1) := by decide +kernel
theorem dX11_offer_66 : decode cX11_offer 66 = .ok (.invokevirtual 107, 3) := by decide +kernel
theorem dX11_offer_69 : decode cX11_offer 69 = .ok (.istore 4, 2) := by decide +kernel
theorem dX11_offer_71 : decode cX11_offer 71 = .ok (.iload 4, 2) := by decide +kernel
theorem dX11_offer_73 : decode cX11_offer 73 = .ok (.ifCond .eq 8, 3) := by decide +kernel
theorem dX11_offer_76 : decode cX11_offer 76 = .ok (.iload 4, 2) := by decide +kernel
theorem dX11_offer_78 : decode cX11_offer 78 = .ok (.goto 13, 3) := by decide +kernel
theorem dX11_offer_81 : decode cX11_offer 81 = .ok (.aload_n 0, 1) := by decide +kernel
theorem dX11_offer_82 : decode cX11_offer 82 = .ok (.getfield 63, 3) := by decide +kernel
theorem dX11_offer_85 : decode cX11_offer 85 = .ok (.iload_n 1, 1) := by decide +kernel
theorem dX11_offer_86 : decode cX11_offer 86 = .ok (.iload_n 2, 1) := by decide +kernel
theorem dX11_offer_87 : decode cX11_offer 87 = .ok (.iload_n 3, 1) := by decide +kernel
theorem dX11_offer_88 : decode cX11_offer 88 = .ok (.invokevirtual 310, 3) := by decide +kernel
theorem dX11_offer_91 : decode cX11_offer 91 = .ok (.ireturn, 1) := by decide +kernel
theorem dX11_plan_0 : decode cX11_plan 0 = .ok (.aload_n 0, 1) := by decide +kernel
theorem dX11_plan_1 : decode cX11_plan 1 = .ok (.iconst 0, 1) := by decide +kernel
theorem dX11_plan_2 : decode cX11_plan 2 = .ok (.iload_n 2, 1) := by decide +kernel
theorem dX11_plan_3 : decode cX11_plan 3 = .ok (.iconst 2, 1) := by decide +kernel
theorem dX11_plan_4 : decode cX11_plan 4 = .ok (.invokestatic 99, 3) := by decide +kernel
theorem dX11_plan_7 : decode cX11_plan 7 = .ok (.ifCond .ne 7, 3) := by decide +kernel
theorem dX11_plan_10 : decode cX11_plan 10 = .ok (.iconst 1, 1) := by decide +kernel
theorem dX11_plan_11 : decode cX11_plan 11 = .ok (.goto 4, 3) := by decide +kernel
theorem dX11_plan_14 : decode cX11_plan 14 = .ok (.iconst 0, 1) := by decide +kernel
theorem dX11_plan_15 : decode cX11_plan 15 = .ok (.iload_n 1, 1) := by decide +kernel
theorem dX11_plan_16 : decode cX11_plan 16 = .ok (.ifCond .ge 7, 3) := by decide +kernel
theorem dX11_plan_19 : decode cX11_plan 19 = .ok (.iconst 1, 1) := by decide +kernel
theorem dX11_plan_20 : decode cX11_plan 20 = .ok (.goto 4, 3) := by decide +kernel
theorem dX11_plan_23 : decode cX11_plan 23 = .ok (.iconst 0, 1) := by decide +kernel
theorem dX11_plan_24 : decode cX11_plan 24 = .ok (.iload_n 1, 1) := by decide +kernel
theorem dX11_plan_25 : decode cX11_plan 25 = .ok (.sipush 9999, 3) := by decide +kernel
theorem dX11_plan_28 : decode cX11_plan 28 = .ok (.if_icmp .le 7, 3) := by decide +kernel
theorem dX11_plan_31 : decode cX11_plan 31 = .ok (.iconst 1, 1) := by decide +kernel
theorem dX11_plan_32 : decode cX11_plan 32 = .ok (.goto 4, 3) := by decide +kernel
theorem dX11_plan_35 : decode cX11_plan 35 = .ok (.iconst 0, 1) := by decide +kernel
theorem dX11_plan_36 : decode cX11_plan 36 = .ok (.invokevirtual 107, 3) := by decide +kernel
theorem dX11_plan_39 : decode cX11_plan 39 = .ok (.istore_n 3, 1) := by decide +kernel
theorem dX11_plan_40 : decode cX11_plan 40 = .ok (.iload_n 3, 1) := by decide +kernel
theorem dX11_plan_41 : decode cX11_plan 41 = .ok (.ifCond .eq 7, 3) := by decide +kernel
theorem dX11_plan_44 : decode cX11_plan 44 = .ok (.iload_n 3, 1) := by decide +kernel
theorem dX11_plan_45 : decode cX11_plan 45 = .ok (.goto 12, 3) := by decide +kernel
theorem dX11_plan_48 : decode cX11_plan 48 = .ok (.aload_n 0, 1) := by decide +kernel
theorem dX11_plan_49 : decode cX11_plan 49 = .ok (.getfield 63, 3) := by decide +kernel
theorem dX11_plan_52 : decode cX11_plan 52 = .ok (.iload_n 1, 1) := by decide +kernel
theorem dX11_plan_53 : decode cX11_plan 53 = .ok (.iload_n 2, 1) := by decide +kernel
theorem dX11_plan_54 : decode cX11_plan 54 = .ok (.invokevirtual 313, 3) := by decide +kernel
theorem dX11_plan_57 : decode cX11_plan 57 = .ok (.ireturn, 1) := by decide +kernel
theorem dX11_count_0 : decode cX11_count 0 = .ok (.iload_n 1, 1) := by decide +kernel
theorem dX11_count_1 : decode cX11_count 1 = .ok (.bipush 11, 2) := by decide +kernel
theorem dX11_count_3 : decode cX11_count 3 = .ok (.if_icmp .lt 19, 3) := by decide +kernel
theorem dX11_count_6 : decode cX11_count 6 = .ok (.iload_n 1, 1) := by decide +kernel
theorem dX11_count_7 : decode cX11_count 7 = .ok (.bipush 17, 2) := by decide +kernel
theorem dX11_count_9 : decode cX11_count 9 = .ok (.if_icmp .gt 13, 3) := by decide +kernel
theorem dX11_count_12 : decode cX11_count 12 = .ok (.aload_n 0, 1) := by decide +kernel
theorem dX11_count_13 : decode cX11_count 13 = .ok (.getfield 95, 3) := by decide +kernel
theorem dX11_count_16 : decode cX11_count 16 = .ok (.iload_n 1, 1) := by decide +kernel
theorem dX11_count_17 : decode cX11_count 17 = .ok (.bipush 10, 2) := by decide +kernel
theorem dX11_count_19 : decode cX11_count 19 = .ok (.isub, 1) := by decide +kernel
theorem dX11_count_20 : decode cX11_count 20 = .ok (.iaload, 1) := by decide +kernel
theorem dX11_count_21 : decode cX11_count 21 = .ok (.ireturn, 1) := by decide +kernel
theorem dX11_count_22 : decode cX11_count 22 = .ok (.iload_n 1, 1) := by decide +kernel
theorem dX11_count_23 : decode cX11_count 23 = .ok (.tableswitch 130 0 8 #[49, 57, 65, 73, 84, 92, 103, 114, 122], 49) := by decide +kernel
theorem dX11_count_72 : decode cX11_count 72 = .ok (.aload_n 0, 1) := by decide +kernel
theorem dX11_count_73 : decode cX11_count 73 = .ok (.getfield 19, 3) := by decide +kernel
theorem dX11_count_76 : decode cX11_count 76 = .ok (.getfield 152, 3) := by decide +kernel
theorem dX11_count_79 : decode cX11_count 79 = .ok (.ireturn, 1) := by decide +kernel
theorem dX11_count_80 : decode cX11_count 80 = .ok (.aload_n 0, 1) := by decide +kernel
theorem dX11_count_81 : decode cX11_count 81 = .ok (.getfield 10, 3) := by decide +kernel
theorem dX11_count_84 : decode cX11_count 84 = .ok (.getfield 103, 3) := by decide +kernel
theorem dX11_count_87 : decode cX11_count 87 = .ok (.ireturn, 1) := by decide +kernel
theorem dX11_count_88 : decode cX11_count 88 = .ok (.aload_n 0, 1) := by decide +kernel
theorem dX11_count_89 : decode cX11_count 89 = .ok (.getfield 10, 3) := by decide +kernel
theorem dX11_count_92 : decode cX11_count 92 = .ok (.getfield 135, 3) := by decide +kernel
theorem dX11_count_95 : decode cX11_count 95 = .ok (.ireturn, 1) := by decide +kernel
theorem dX11_count_96 : decode cX11_count 96 = .ok (.aload_n 0, 1) := by decide +kernel
theorem dX11_count_97 : decode cX11_count 97 = .ok (.getfield 10, 3) := by decide +kernel
theorem dX11_count_100 : decode cX11_count 100 = .ok (.getfield 220, 3) := by decide +kernel
theorem dX11_count_103 : decode cX11_count 103 = .ok (.invokestatic 234, 3) := by decide +kernel
theorem dX11_count_106 : decode cX11_count 106 = .ok (.ireturn, 1) := by decide +kernel
theorem dX11_count_107 : decode cX11_count 107 = .ok (.aload_n 0, 1) := by decide +kernel
theorem dX11_count_108 : decode cX11_count 108 = .ok (.getfield 10, 3) := by decide +kernel
theorem dX11_count_111 : decode cX11_count 111 = .ok (.getfield 142, 3) := by decide +kernel
theorem dX11_count_114 : decode cX11_count 114 = .ok (.ireturn, 1) := by decide +kernel
theorem dX11_count_115 : decode cX11_count 115 = .ok (.aload_n 0, 1) := by decide +kernel
theorem dX11_count_116 : decode cX11_count 116 = .ok (.getfield 10, 3) := by decide +kernel
theorem dX11_count_119 : decode cX11_count 119 = .ok (.getfield 162, 3) := by decide +kernel
theorem dX11_count_122 : decode cX11_count 122 = .ok (.invokestatic 234, 3) := by decide +kernel
theorem dX11_count_125 : decode cX11_count 125 = .ok (.ireturn, 1) := by decide +kernel
theorem dX11_count_126 : decode cX11_count 126 = .ok (.aload_n 0, 1) := by decide +kernel
theorem dX11_count_127 : decode cX11_count 127 = .ok (.getfield 45, 3) := by decide +kernel
theorem dX11_count_130 : decode cX11_count 130 = .ok (.getfield 316, 3) := by decide +kernel
theorem dX11_count_133 : decode cX11_count 133 = .ok (.invokestatic 234, 3) := by decide +kernel
theorem dX11_count_136 : decode cX11_count 136 = .ok (.ireturn, 1) := by decide +kernel
theorem dX11_count_137 : decode cX11_count 137 = .ok (.aload_n 0, 1) := by decide +kernel
theorem dX11_count_138 : decode cX11_count 138 = .ok (.getfield 29, 3) := by decide +kernel
theorem dX11_count_141 : decode cX11_count 141 = .ok (.getfield 319, 3) := by decide +kernel
theorem dX11_count_144 : decode cX11_count 144 = .ok (.ireturn, 1) := by decide +kernel
theorem dX11_count_145 : decode cX11_count 145 = .ok (.aload_n 0, 1) := by decide +kernel
theorem dX11_count_146 : decode cX11_count 146 = .ok (.getfield 36, 3) := by decide +kernel
theorem dX11_count_149 : decode cX11_count 149 = .ok (.getfield 183, 3) := by decide +kernel
theorem dX11_count_152 : decode cX11_count 152 = .ok (.ireturn, 1) := by decide +kernel
theorem dX11_count_153 : decode cX11_count 153 = .ok (.bipush (-9), 2) := by decide +kernel
theorem dX11_count_155 : decode cX11_count 155 = .ok (.ireturn, 1) := by decide +kernel
theorem dX11_refusal_0 : decode cX11_refusal 0 = .ok (.iload_n 1, 1) := by decide +kernel
theorem dX11_refusal_1 : decode cX11_refusal 1 = .ok (.ifCond .eq 9, 3) := by decide +kernel
theorem dX11_refusal_4 : decode cX11_refusal 4 = .ok (.aload_n 0, 1) := by decide +kernel
theorem dX11_refusal_5 : decode cX11_refusal 5 = .ok (.iconst (-1), 1) := by decide +kernel
theorem dX11_refusal_6 : decode cX11_refusal 6 = .ok (.invokevirtual 193, 3) := by decide +kernel
theorem dX11_refusal_9 : decode cX11_refusal 9 = .ok (.ireturn, 1) := by decide +kernel
theorem dX11_refusal_10 : decode cX11_refusal 10 = .ok (.iload_n 2, 1) := by decide +kernel
theorem dX11_refusal_11 : decode cX11_refusal 11 = .ok (.ifCond .eq 10, 3) := by decide +kernel
theorem dX11_refusal_14 : decode cX11_refusal 14 = .ok (.aload_n 0, 1) := by decide +kernel
theorem dX11_refusal_15 : decode cX11_refusal 15 = .ok (.bipush (-2), 2) := by decide +kernel
theorem dX11_refusal_17 : decode cX11_refusal 17 = .ok (.invokevirtual 193, 3) := by decide +kernel
theorem dX11_refusal_20 : decode cX11_refusal 20 = .ok (.ireturn, 1) := by decide +kernel
theorem dX11_refusal_21 : decode cX11_refusal 21 = .ok (.iload_n 3, 1) := by decide +kernel
theorem dX11_refusal_22 : decode cX11_refusal 22 = .ok (.ifCond .eq 10, 3) := by decide +kernel
theorem dX11_refusal_25 : decode cX11_refusal 25 = .ok (.aload_n 0, 1) := by decide +kernel
theorem dX11_refusal_26 : decode cX11_refusal 26 = .ok (.bipush (-4), 2) := by decide +kernel
theorem dX11_refusal_28 : decode cX11_refusal 28 = .ok (.invokevirtual 193, 3) := by decide +kernel
theorem dX11_refusal_31 : decode cX11_refusal 31 = .ok (.ireturn, 1) := by decide +kernel
theorem dX11_refusal_32 : decode cX11_refusal 32 = .ok (.iload 4, 2) := by decide +kernel
theorem dX11_refusal_34 : decode cX11_refusal 34 = .ok (.ifCond .eq 12, 3) := by decide +kernel
theorem dX11_refusal_37 : decode cX11_refusal 37 = .ok (.aload_n 0, 1) := by decide +kernel
theorem dX11_refusal_38 : decode cX11_refusal 38 = .ok (.bipush (-6), 2) := by decide +kernel
theorem dX11_refusal_40 : decode cX11_refusal 40 = .ok (.invokevirtual 193, 3) := by decide +kernel
theorem dX11_refusal_43 : decode cX11_refusal 43 = .ok (.goto 4, 3) := by decide +kernel
theorem dX11_refusal_46 : decode cX11_refusal 46 = .ok (.iconst 0, 1) := by decide +kernel
theorem dX11_refusal_47 : decode cX11_refusal 47 = .ok (.ireturn, 1) := by decide +kernel
theorem dX11_refuse_0 : decode cX11_refuse 0 = .ok (.iload_n 1, 1) := by decide +kernel
theorem dX11_refuse_1 : decode cX11_refuse 1 = .ok (.ifCond .ge 24, 3) := by decide +kernel
theorem dX11_refuse_4 : decode cX11_refuse 4 = .ok (.iload_n 1, 1) := by decide +kernel
theorem dX11_refuse_5 : decode cX11_refuse 5 = .ok (.aload_n 0, 1) := by decide +kernel
theorem dX11_refuse_6 : decode cX11_refuse 6 = .ok (.getfield 95, 3) := by decide +kernel
theorem dX11_refuse_9 : decode cX11_refuse 9 = .ok (.arraylength, 1) := by decide +kernel
theorem dX11_refuse_10 : decode cX11_refuse 10 = .ok (.ineg, 1) := by decide +kernel
theorem dX11_refuse_11 : decode cX11_refuse 11 = .ok (.if_icmp .le 14, 3) := by decide +kernel
theorem dX11_refuse_14 : decode cX11_refuse 14 = .ok (.aload_n 0, 1) := by decide +kernel
theorem dX11_refuse_15 : decode cX11_refuse 15 = .ok (.getfield 95, 3) := by decide +kernel
theorem dX11_refuse_18 : decode cX11_refuse 18 = .ok (.iload_n 1, 1) := by decide +kernel
theorem dX11_refuse_19 : decode cX11_refuse 19 = .ok (.ineg, 1) := by decide +kernel
theorem dX11_refuse_20 : decode cX11_refuse 20 = .ok (.dup2, 1) := by decide +kernel
theorem dX11_refuse_21 : decode cX11_refuse 21 = .ok (.iaload, 1) := by decide +kernel
theorem dX11_refuse_22 : decode cX11_refuse 22 = .ok (.iconst 1, 1) := by decide +kernel
theorem dX11_refuse_23 : decode cX11_refuse 23 = .ok (.iadd, 1) := by decide +kernel
theorem dX11_refuse_24 : decode cX11_refuse 24 = .ok (.iastore, 1) := by decide +kernel
theorem dX11_refuse_25 : decode cX11_refuse 25 = .ok (.iload_n 1, 1) := by decide +kernel
theorem dX11_refuse_26 : decode cX11_refuse 26 = .ok (.ireturn, 1) := by decide +kernel
theorem dX11_within_0 : decode cX11_within 0 = .ok (.iload_n 0, 1) := by decide +kernel
theorem dX11_within_1 : decode cX11_within 1 = .ok (.ifCond .lt 12, 3) := by decide +kernel
theorem dX11_within_4 : decode cX11_within 4 = .ok (.iload_n 0, 1) := by decide +kernel
theorem dX11_within_5 : decode cX11_within 5 = .ok (.iload_n 1, 1) := by decide +kernel
theorem dX11_within_6 : decode cX11_within 6 = .ok (.if_icmp .ge 7, 3) := by decide +kernel
theorem dX11_within_9 : decode cX11_within 9 = .ok (.iconst 1, 1) := by decide +kernel
theorem dX11_within_10 : decode cX11_within 10 = .ok (.goto 4, 3) := by decide +kernel
theorem dX11_within_13 : decode cX11_within 13 = .ok (.iconst 0, 1) := by decide +kernel
theorem dX11_within_14 : decode cX11_within 14 = .ok (.ireturn, 1) := by decide +kernel
theorem dX11_passing_0 : decode cX11_passing 0 = .ok (.lconst 0, 1) := by decide +kernel
theorem dX11_passing_1 : decode cX11_passing 1 = .ok (.lstore 4, 2) := by decide +kernel
theorem dX11_passing_3 : decode cX11_passing 3 = .ok (.iconst 0, 1) := by decide +kernel
theorem dX11_passing_4 : decode cX11_passing 4 = .ok (.istore 6, 2) := by decide +kernel
theorem dX11_passing_6 : decode cX11_passing 6 = .ok (.iload 6, 2) := by decide +kernel
theorem dX11_passing_8 : decode cX11_passing 8 = .ok (.iload_n 3, 1) := by decide +kernel
theorem dX11_passing_9 : decode cX11_passing 9 = .ok (.if_icmp .gt 31, 3) := by decide +kernel
theorem dX11_passing_12 : decode cX11_passing 12 = .ok (.lload 4, 2) := by decide +kernel
theorem dX11_passing_14 : decode cX11_passing 14 = .ok (.iload_n 1, 1) := by decide +kernel
theorem dX11_passing_15 : decode cX11_passing 15 = .ok (.iload 6, 2) := by decide +kernel
theorem dX11_passing_17 : decode cX11_passing 17 = .ok (.invokestatic 299, 3) := by decide +kernel
theorem dX11_passing_20 : decode cX11_passing 20 = .ok (.iload_n 0, 1) := by decide +kernel
theorem dX11_passing_21 : decode cX11_passing 21 = .ok (.iload_n 1, 1) := by decide +kernel
theorem dX11_passing_22 : decode cX11_passing 22 = .ok (.isub, 1) := by decide +kernel
theorem dX11_passing_23 : decode cX11_passing 23 = .ok (.iload_n 2, 1) := by decide +kernel
theorem dX11_passing_24 : decode cX11_passing 24 = .ok (.iload 6, 2) := by decide +kernel
theorem dX11_passing_26 : decode cX11_passing 26 = .ok (.isub, 1) := by decide +kernel
theorem dX11_passing_27 : decode cX11_passing 27 = .ok (.invokestatic 299, 3) := by decide +kernel
theorem dX11_passing_30 : decode cX11_passing 30 = .ok (.lmul, 1) := by decide +kernel
theorem dX11_passing_31 : decode cX11_passing 31 = .ok (.ladd, 1) := by decide +kernel
theorem dX11_passing_32 : decode cX11_passing 32 = .ok (.lstore 4, 2) := by decide +kernel
theorem dX11_passing_34 : decode cX11_passing 34 = .ok (.iinc 6 1, 3) := by decide +kernel
theorem dX11_passing_37 : decode cX11_passing 37 = .ok (.goto (-31), 3) := by decide +kernel
theorem dX11_passing_40 : decode cX11_passing 40 = .ok (.lload 4, 2) := by decide +kernel
theorem dX11_passing_42 : decode cX11_passing 42 = .ok (.lreturn, 1) := by decide +kernel
theorem dX11_choices_0 : decode cX11_choices 0 = .ok (.iload_n 1, 1) := by decide +kernel
theorem dX11_choices_1 : decode cX11_choices 1 = .ok (.ifCond .lt 8, 3) := by decide +kernel
theorem dX11_choices_4 : decode cX11_choices 4 = .ok (.iload_n 1, 1) := by decide +kernel
theorem dX11_choices_5 : decode cX11_choices 5 = .ok (.iload_n 0, 1) := by decide +kernel
theorem dX11_choices_6 : decode cX11_choices 6 = .ok (.if_icmp .le 5, 3) := by decide +kernel
theorem dX11_choices_9 : decode cX11_choices 9 = .ok (.lconst 0, 1) := by decide +kernel
theorem dX11_choices_10 : decode cX11_choices 10 = .ok (.lreturn, 1) := by decide +kernel
theorem dX11_choices_11 : decode cX11_choices 11 = .ok (.lconst 1, 1) := by decide +kernel
theorem dX11_choices_12 : decode cX11_choices 12 = .ok (.lstore_n 2, 1) := by decide +kernel
theorem dX11_choices_13 : decode cX11_choices 13 = .ok (.iconst 1, 1) := by decide +kernel
theorem dX11_choices_14 : decode cX11_choices 14 = .ok (.istore 4, 2) := by decide +kernel
theorem dX11_choices_16 : decode cX11_choices 16 = .ok (.iload 4, 2) := by decide +kernel
theorem dX11_choices_18 : decode cX11_choices 18 = .ok (.iload_n 1, 1) := by decide +kernel
theorem dX11_choices_19 : decode cX11_choices 19 = .ok (.if_icmp .gt 23, 3) := by decide +kernel
theorem dX11_choices_22 : decode cX11_choices 22 = .ok (.lload_n 2, 1) := by decide +kernel
theorem dX11_choices_23 : decode cX11_choices 23 = .ok (.iload_n 0, 1) := by decide +kernel
theorem dX11_choices_24 : decode cX11_choices 24 = .ok (.iload_n 1, 1) := by decide +kernel
theorem dX11_choices_25 : decode cX11_choices 25 = .ok (.isub, 1) := by decide +kernel
theorem dX11_choices_26 : decode cX11_choices 26 = .ok (.iload 4, 2) := by decide +kernel
theorem dX11_choices_28 : decode cX11_choices 28 = .ok (.iadd, 1) := by decide +kernel
theorem dX11_choices_29 : decode cX11_choices 29 = .ok (.i2l, 1) := by decide +kernel
theorem dX11_choices_30 : decode cX11_choices 30 = .ok (.lmul, 1) := by decide +kernel
theorem dX11_choices_31 : decode cX11_choices 31 = .ok (.iload 4, 2) := by decide +kernel
theorem dX11_choices_33 : decode cX11_choices 33 = .ok (.i2l, 1) := by decide +kernel
theorem dX11_choices_34 : decode cX11_choices 34 = .ok (.ldiv, 1) := by decide +kernel
theorem dX11_choices_35 : decode cX11_choices 35 = .ok (.lstore_n 2, 1) := by decide +kernel
theorem dX11_choices_36 : decode cX11_choices 36 = .ok (.iinc 4 1, 3) := by decide +kernel
theorem dX11_choices_39 : decode cX11_choices 39 = .ok (.goto (-23), 3) := by decide +kernel
theorem dX11_choices_42 : decode cX11_choices 42 = .ok (.lload_n 2, 1) := by decide +kernel
theorem dX11_choices_43 : decode cX11_choices 43 = .ok (.lreturn, 1) := by decide +kernel
theorem dX12_init_0 : decode cX12_init 0 = .ok (.aload_n 0, 1) := by decide +kernel
theorem dX12_init_1 : decode cX12_init 1 = .ok (.invokespecial 1, 3) := by decide +kernel
theorem dX12_init_4 : decode cX12_init 4 = .ok (.aload_n 0, 1) := by decide +kernel
theorem dX12_init_5 : decode cX12_init 5 = .ok (.bipush 8, 2) := by decide +kernel
theorem dX12_init_7 : decode cX12_init 7 = .ok (.newarray .int, 2) := by decide +kernel
theorem dX12_init_9 : decode cX12_init 9 = .ok (.putfield 7, 3) := by decide +kernel
theorem dX12_init_12 : decode cX12_init 12 = .ok (.aload_n 0, 1) := by decide +kernel
theorem dX12_init_13 : decode cX12_init 13 = .ok (.iconst 5, 1) := by decide +kernel
theorem dX12_init_14 : decode cX12_init 14 = .ok (.newarray .int, 2) := by decide +kernel
theorem dX12_init_16 : decode cX12_init 16 = .ok (.putfield 13, 3) := by decide +kernel
theorem dX12_init_19 : decode cX12_init 19 = .ok (.aload_n 0, 1) := by decide +kernel
theorem dX12_init_20 : decode cX12_init 20 = .ok (.iconst 5, 1) := by decide +kernel
theorem dX12_init_21 : decode cX12_init 21 = .ok (.newarray .int, 2) := by decide +kernel
theorem dX12_init_23 : decode cX12_init 23 = .ok (.putfield 16, 3) := by decide +kernel
theorem dX12_init_26 : decode cX12_init 26 = .ok (.aload_n 0, 1) := by decide +kernel
theorem dX12_init_27 : decode cX12_init 27 = .ok (.iconst 5, 1) := by decide +kernel
theorem dX12_init_28 : decode cX12_init 28 = .ok (.newarray .int, 2) := by decide +kernel
theorem dX12_init_30 : decode cX12_init 30 = .ok (.putfield 19, 3) := by decide +kernel
theorem dX12_init_33 : decode cX12_init 33 = .ok (.aload_n 0, 1) := by decide +kernel
theorem dX12_init_34 : decode cX12_init 34 = .ok (.bipush 40, 2) := by decide +kernel
theorem dX12_init_36 : decode cX12_init 36 = .ok (.newarray .int, 2) := by decide +kernel
theorem dX12_init_38 : decode cX12_init 38 = .ok (.putfield 22, 3) := by decide +kernel
theorem dX12_init_41 : decode cX12_init 41 = .ok (.aload_n 0, 1) := by decide +kernel
theorem dX12_init_42 : decode cX12_init 42 = .ok (.bipush 12, 2) := by decide +kernel
theorem dX12_init_44 : decode cX12_init 44 = .ok (.newarray .int, 2) := by decide +kernel
theorem dX12_init_46 : decode cX12_init 46 = .ok (.putfield 25, 3) := by decide +kernel
theorem dX12_init_49 : decode cX12_init 49 = .ok (.aload_n 0, 1) := by decide +kernel
theorem dX12_init_50 : decode cX12_init 50 = .ok (.bipush 12, 2) := by decide +kernel
theorem dX12_init_52 : decode cX12_init 52 = .ok (.newarray .int, 2) := by decide +kernel
theorem dX12_init_54 : decode cX12_init 54 = .ok (.putfield 28, 3) := by decide +kernel
theorem dX12_init_57 : decode cX12_init 57 = .ok (.aload_n 0, 1) := by decide +kernel
theorem dX12_init_58 : decode cX12_init 58 = .ok (.bipush 12, 2) := by decide +kernel
theorem dX12_init_60 : decode cX12_init 60 = .ok (.newarray .int, 2) := by decide +kernel
theorem dX12_init_62 : decode cX12_init 62 = .ok (.putfield 31, 3) := by decide +kernel
theorem dX12_init_65 : decode cX12_init 65 = .ok (.aload_n 0, 1) := by decide +kernel
theorem dX12_init_66 : decode cX12_init 66 = .ok (.bipush 8, 2) := by decide +kernel
theorem dX12_init_68 : decode cX12_init 68 = .ok (.newarray .int, 2) := by decide +kernel
theorem dX12_init_70 : decode cX12_init 70 = .ok (.putfield 34, 3) := by decide +kernel
theorem dX12_init_73 : decode cX12_init 73 = .ok (.aload_n 0, 1) := by decide +kernel
theorem dX12_init_74 : decode cX12_init 74 = .ok (.bipush 24, 2) := by decide +kernel
theorem dX12_init_76 : decode cX12_init 76 = .ok (.newarray .int, 2) := by decide +kernel
theorem dX12_init_78 : decode cX12_init 78 = .ok (.putfield 37, 3) := by decide +kernel
theorem dX12_init_81 : decode cX12_init 81 = .ok (.aload_n 0, 1) := by decide +kernel
theorem dX12_init_82 : decode cX12_init 82 = .ok (.bipush 8, 2) := by decide +kernel
theorem dX12_init_84 : decode cX12_init 84 = .ok (.newarray .int, 2) := by decide +kernel
theorem dX12_init_86 : decode cX12_init 86 = .ok (.putfield 40, 3) := by decide +kernel
theorem dX12_init_89 : decode cX12_init 89 = .ok (.aload_n 0, 1) := by decide +kernel
theorem dX12_init_90 : decode cX12_init 90 = .ok (.bipush 15, 2) := by decide +kernel
theorem dX12_init_92 : decode cX12_init 92 = .ok (.newarray .int, 2) := by decide +kernel
theorem dX12_init_94 : decode cX12_init 94 = .ok (.putfield 43, 3) := by decide +kernel
theorem dX12_init_97 : decode cX12_init 97 = .ok (.aload_n 0, 1) := by decide +kernel
theorem dX12_init_98 : decode cX12_init 98 = .ok (.bipush 15, 2) := by decide +kernel
theorem dX12_init_100 : decode cX12_init 100 = .ok (.newarray .int, 2) := by decide +kernel
theorem dX12_init_102 : decode cX12_init 102 = .ok (.putfield 46, 3) := by decide +kernel
theorem dX12_init_105 : decode cX12_init 105 = .ok (.aload_n 0, 1) := by decide +kernel
theorem dX12_init_106 : decode cX12_init 106 = .ok (.bipush 15, 2) := by decide +kernel
theorem dX12_init_108 : decode cX12_init 108 = .ok (.newarray .int, 2) := by decide +kernel
theorem dX12_init_110 : decode cX12_init 110 = .ok (.putfield 49, 3) := by decide +kernel
theorem dX12_init_113 : decode cX12_init 113 = .ok (.aload_n 0, 1) := by decide +kernel
theorem dX12_init_114 : decode cX12_init 114 = .ok (.bipush 24, 2) := by decide +kernel
theorem dX12_init_116 : decode cX12_init 116 = .ok (.newarray .int, 2) := by decide +kernel
theorem dX12_init_118 : decode cX12_init 118 = .ok (.putfield 52, 3) := by decide +kernel
theorem dX12_init_121 : decode cX12_init 121 = .ok (.aload_n 0, 1) := by decide +kernel
theorem dX12_init_122 : decode cX12_init 122 = .ok (.iconst 3, 1) := by decide +kernel
theorem dX12_init_123 : decode cX12_init 123 = .ok (.newarray .int, 2) := by decide +kernel
theorem dX12_init_125 : decode cX12_init 125 = .ok (.putfield 55, 3) := by decide +kernel
theorem dX12_init_128 : decode cX12_init 128 = .ok (.aload_n 0, 1) := by decide +kernel
theorem dX12_init_129 : decode cX12_init 129 = .ok (.iconst 3, 1) := by decide +kernel
theorem dX12_init_130 : decode cX12_init 130 = .ok (.newarray .int, 2) := by decide +kernel
theorem dX12_init_132 : decode cX12_init 132 = .ok (.putfield 58, 3) := by decide +kernel
theorem dX12_init_135 : decode cX12_init 135 = .ok (.aload_n 0, 1) := by decide +kernel
theorem dX12_init_136 : decode cX12_init 136 = .ok (.bipush 12, 2) := by decide +kernel
theorem dX12_init_138 : decode cX12_init 138 = .ok (.newarray .boolean, 2) := by decide +kernel
theorem dX12_init_140 : decode cX12_init 140 = .ok (.putfield 61, 3) := by decide +kernel
theorem dX12_init_143 : decode cX12_init 143 = .ok (.aload_n 0, 1) := by decide +kernel
theorem dX12_init_144 : decode cX12_init 144 = .ok (.bipush 8, 2) := by decide +kernel
theorem dX12_init_146 : decode cX12_init 146 = .ok (.newarray .boolean, 2) := by decide +kernel
theorem dX12_init_148 : decode cX12_init 148 = .ok (.putfield 65, 3) := by decide +kernel
theorem dX12_init_151 : decode cX12_init 151 = .ok (.aload_n 0, 1) := by decide +kernel
theorem dX12_init_152 : decode cX12_init 152 = .ok (.bipush 8, 2) := by decide +kernel
theorem dX12_init_154 : decode cX12_init 154 = .ok (.newarray .boolean, 2) := by decide +kernel
theorem dX12_init_156 : decode cX12_init 156 = .ok (.putfield 68, 3) := by decide +kernel
theorem dX12_init_159 : decode cX12_init 159 = .ok (.aload_n 0, 1) := by decide +kernel
theorem dX12_init_160 : decode cX12_init 160 = .ok (.bipush 36, 2) := by decide +kernel
theorem dX12_init_162 : decode cX12_init 162 = .ok (.newarray .int, 2) := by decide +kernel
theorem dX12_init_164 : decode cX12_init 164 = .ok (.putfield 71, 3) := by decide +kernel
theorem dX12_init_167 : decode cX12_init 167 = .ok (.aload_n 0, 1) := by decide +kernel
theorem dX12_init_168 : decode cX12_init 168 = .ok (.bipush 36, 2) := by decide +kernel
theorem dX12_init_170 : decode cX12_init 170 = .ok (.newarray .int, 2) := by decide +kernel
theorem dX12_init_172 : decode cX12_init 172 = .ok (.putfield 74, 3) := by decide +kernel
theorem dX12_init_175 : decode cX12_init 175 = .ok (.aload_n 0, 1) := by decide +kernel
theorem dX12_init_176 : decode cX12_init 176 = .ok (.bipush 15, 2) := by decide +kernel
theorem dX12_init_178 : decode cX12_init 178 = .ok (.newarray .int, 2) := by decide +kernel
theorem dX12_init_180 : decode cX12_init 180 = .ok (.putfield 77, 3) := by decide +kernel
theorem dX12_init_183 : decode cX12_init 183 = .ok (.aload_n 0, 1) := by decide +kernel
theorem dX12_init_184 : decode cX12_init 184 = .ok (.bipush 15, 2) := by decide +kernel
theorem dX12_init_186 : decode cX12_init 186 = .ok (.newarray .int, 2) := by decide +kernel
theorem dX12_init_188 : decode cX12_init 188 = .ok (.putfield 80, 3) := by decide +kernel
theorem dX12_init_191 : decode cX12_init 191 = .ok (.aload_n 0, 1) := by decide +kernel
theorem dX12_init_192 : decode cX12_init 192 = .ok (.bipush 24, 2) := by decide +kernel
theorem dX12_init_194 : decode cX12_init 194 = .ok (.newarray .int, 2) := by decide +kernel
theorem dX12_init_196 : decode cX12_init 196 = .ok (.putfield 83, 3) := by decide +kernel
theorem dX12_init_199 : decode cX12_init 199 = .ok (.aload_n 0, 1) := by decide +kernel
theorem dX12_init_200 : decode cX12_init 200 = .ok (.iconst 3, 1) := by decide +kernel
theorem dX12_init_201 : decode cX12_init 201 = .ok (.newarray .int, 2) := by decide +kernel
theorem dX12_init_203 : decode cX12_init 203 = .ok (.putfield 86, 3) := by decide +kernel
theorem dX12_init_206 : decode cX12_init 206 = .ok (.aload_n 0, 1) := by decide +kernel
theorem dX12_init_207 : decode cX12_init 207 = .ok (.iconst 3, 1) := by decide +kernel
theorem dX12_init_208 : decode cX12_init 208 = .ok (.newarray .int, 2) := by decide +kernel
theorem dX12_init_210 : decode cX12_init 210 = .ok (.putfield 89, 3) := by decide +kernel
theorem dX12_init_213 : decode cX12_init 213 = .ok (.aload_n 0, 1) := by decide +kernel
theorem dX12_init_214 : decode cX12_init 214 = .ok (.bipush 8, 2) := by decide +kernel
theorem dX12_init_216 : decode cX12_init 216 = .ok (.newarray .boolean, 2) := by decide +kernel
theorem dX12_init_218 : decode cX12_init 218 = .ok (.putfield 92, 3) := by decide +kernel
theorem dX12_init_221 : decode cX12_init 221 = .ok (.aload_n 0, 1) := by decide +kernel
theorem dX12_init_222 : decode cX12_init 222 = .ok (.bipush 40, 2) := by decide +kernel
theorem dX12_init_224 : decode cX12_init 224 = .ok (.newarray .int, 2) := by decide +kernel
theorem dX12_init_226 : decode cX12_init 226 = .ok (.putfield 95, 3) := by decide +kernel
theorem dX12_init_229 : decode cX12_init 229 = .ok (.aload_n 0, 1) := by decide +kernel
theorem dX12_init_230 : decode cX12_init 230 = .ok (.sipush 640, 3) := by decide +kernel
theorem dX12_init_233 : decode cX12_init 233 = .ok (.newarray .int, 2) := by decide +kernel
theorem dX12_init_235 : decode cX12_init 235 = .ok (.putfield 98, 3) := by decide +kernel
theorem dX12_init_238 : decode cX12_init 238 = .ok (.aload_n 0, 1) := by decide +kernel
theorem dX12_init_239 : decode cX12_init 239 = .ok (.bipush 16, 2) := by decide +kernel
theorem dX12_init_241 : decode cX12_init 241 = .ok (.newarray .int, 2) := by decide +kernel
theorem dX12_init_243 : decode cX12_init 243 = .ok (.putfield 101, 3) := by decide +kernel
theorem dX12_init_246 : decode cX12_init 246 = .ok (.aload_n 0, 1) := by decide +kernel
theorem dX12_init_247 : decode cX12_init 247 = .ok (.bipush 8, 2) := by decide +kernel
theorem dX12_init_249 : decode cX12_init 249 = .ok (.newarray .int, 2) := by decide +kernel
theorem dX12_init_251 : decode cX12_init 251 = .ok (.putfield 104, 3) := by decide +kernel
theorem dX12_init_254 : decode cX12_init 254 = .ok (.aload_n 0, 1) := by decide +kernel
theorem dX12_init_255 : decode cX12_init 255 = .ok (.bipush 16, 2) := by decide +kernel
theorem dX12_init_257 : decode cX12_init 257 = .ok (.newarray .boolean, 2) := by decide +kernel
theorem dX12_init_259 : decode cX12_init 259 = .ok (.putfield 107, 3) := by decide +kernel
theorem dX12_init_262 : decode cX12_init 262 = .ok (.aload_n 0, 1) := by decide +kernel
theorem dX12_init_263 : decode cX12_init 263 = .ok (.bipush 40, 2) := by decide +kernel
theorem dX12_init_265 : decode cX12_init 265 = .ok (.newarray .int, 2) := by decide +kernel
theorem dX12_init_267 : decode cX12_init 267 = .ok (.putfield 110, 3) := by decide +kernel
theorem dX12_init_270 : decode cX12_init 270 = .ok (.aload_n 0, 1) := by decide +kernel
theorem dX12_init_271 : decode cX12_init 271 = .ok (.bipush 40, 2) := by decide +kernel
theorem dX12_init_273 : decode cX12_init 273 = .ok (.newarray .int, 2) := by decide +kernel
theorem dX12_init_275 : decode cX12_init 275 = .ok (.putfield 113, 3) := by decide +kernel
theorem dX12_init_278 : decode cX12_init 278 = .ok (.aload_n 0, 1) := by decide +kernel
theorem dX12_init_279 : decode cX12_init 279 = .ok (.bipush 30, 2) := by decide +kernel
theorem dX12_init_281 : decode cX12_init 281 = .ok (.newarray .int, 2) := by decide +kernel
theorem dX12_init_283 : decode cX12_init 283 = .ok (.putfield 116, 3) := by decide +kernel
theorem dX12_init_286 : decode cX12_init 286 = .ok (.aload_n 0, 1) := by decide +kernel
theorem dX12_init_287 : decode cX12_init 287 = .ok (.bipush 30, 2) := by decide +kernel
theorem dX12_init_289 : decode cX12_init 289 = .ok (.newarray .int, 2) := by decide +kernel
theorem dX12_init_291 : decode cX12_init 291 = .ok (.putfield 119, 3) := by decide +kernel
theorem dX12_init_294 : decode cX12_init 294 = .ok (.aload_n 0, 1) := by decide +kernel
theorem dX12_init_295 : decode cX12_init 295 = .ok (.bipush 30, 2) := by decide +kernel
theorem dX12_init_297 : decode cX12_init 297 = .ok (.newarray .int, 2) := by decide +kernel
theorem dX12_init_299 : decode cX12_init 299 = .ok (.putfield 122, 3) := by decide +kernel
theorem dX12_init_302 : decode cX12_init 302 = .ok (.aload_n 0, 1) := by decide +kernel
theorem dX12_init_303 : decode cX12_init 303 = .ok (.bipush 30, 2) := by decide +kernel
theorem dX12_init_305 : decode cX12_init 305 = .ok (.newarray .int, 2) := by decide +kernel
theorem dX12_init_307 : decode cX12_init 307 = .ok (.putfield 125, 3) := by decide +kernel
theorem dX12_init_310 : decode cX12_init 310 = .ok (.aload_n 0, 1) := by decide +kernel
theorem dX12_init_311 : decode cX12_init 311 = .ok (.bipush 6, 2) := by decide +kernel
theorem dX12_init_313 : decode cX12_init 313 = .ok (.newarray .int, 2) := by decide +kernel
theorem dX12_init_315 : decode cX12_init 315 = .ok (.putfield 128, 3) := by decide +kernel
theorem dX12_init_318 : decode cX12_init 318 = .ok (.aload_n 0, 1) := by decide +kernel
theorem dX12_init_319 : decode cX12_init 319 = .ok (.bipush 6, 2) := by decide +kernel
theorem dX12_init_321 : decode cX12_init 321 = .ok (.newarray .int, 2) := by decide +kernel
theorem dX12_init_323 : decode cX12_init 323 = .ok (.putfield 131, 3) := by decide +kernel
theorem dX12_init_326 : decode cX12_init 326 = .ok (.aload_n 0, 1) := by decide +kernel
theorem dX12_init_327 : decode cX12_init 327 = .ok (.bipush 30, 2) := by decide +kernel
theorem dX12_init_329 : decode cX12_init 329 = .ok (.newarray .long, 2) := by decide +kernel
theorem dX12_init_331 : decode cX12_init 331 = .ok (.putfield 134, 3) := by decide +kernel
theorem dX12_init_334 : decode cX12_init 334 = .ok (.aload_n 0, 1) := by decide +kernel
theorem dX12_init_335 : decode cX12_init 335 = .ok (.iconst 5, 1) := by decide +kernel
theorem dX12_init_336 : decode cX12_init 336 = .ok (.newarray .int, 2) := by decide +kernel
theorem dX12_init_338 : decode cX12_init 338 = .ok (.putfield 138, 3) := by decide +kernel
theorem dX12_init_341 : decode cX12_init 341 = .ok (.aload_n 0, 1) := by decide +kernel
theorem dX12_init_342 : decode cX12_init 342 = .ok (.iconst 5, 1) := by decide +kernel
theorem dX12_init_343 : decode cX12_init 343 = .ok (.newarray .int, 2) := by decide +kernel
theorem dX12_init_345 : decode cX12_init 345 = .ok (.putfield 141, 3) := by decide +kernel
theorem dX12_init_348 : decode cX12_init 348 = .ok (.aload_n 0, 1) := by decide +kernel
theorem dX12_init_349 : decode cX12_init 349 = .ok (.iconst 5, 1) := by decide +kernel
theorem dX12_init_350 : decode cX12_init 350 = .ok (.newarray .boolean, 2) := by decide +kernel
theorem dX12_init_352 : decode cX12_init 352 = .ok (.putfield 144, 3) := by decide +kernel
theorem dX12_init_355 : decode cX12_init 355 = .ok (.aload_n 0, 1) := by decide +kernel
theorem dX12_init_356 : decode cX12_init 356 = .ok (.bipush 25, 2) := by decide +kernel
theorem dX12_init_358 : decode cX12_init 358 = .ok (.newarray .boolean, 2) := by decide +kernel
theorem dX12_init_360 : decode cX12_init 360 = .ok (.putfield 147, 3) := by decide +kernel
theorem dX12_init_363 : decode cX12_init 363 = .ok (.aload_n 0, 1) := by decide +kernel
theorem dX12_init_364 : decode cX12_init 364 = .ok (.bipush 25, 2) := by decide +kernel
theorem dX12_init_366 : decode cX12_init 366 = .ok (.newarray .int, 2) := by decide +kernel
theorem dX12_init_368 : decode cX12_init 368 = .ok (.putfield 150, 3) := by decide +kernel
theorem dX12_init_371 : decode cX12_init 371 = .ok (.aload_n 0, 1) := by decide +kernel
theorem dX12_init_372 : decode cX12_init 372 = .ok (.bipush 25, 2) := by decide +kernel
theorem dX12_init_374 : decode cX12_init 374 = .ok (.newarray .int, 2) := by decide +kernel
theorem dX12_init_376 : decode cX12_init 376 = .ok (.putfield 153, 3) := by decide +kernel
theorem dX12_init_379 : decode cX12_init 379 = .ok (.aload_n 0, 1) := by decide +kernel
theorem dX12_init_380 : decode cX12_init 380 = .ok (.iconst 4, 1) := by decide +kernel
theorem dX12_init_381 : decode cX12_init 381 = .ok (.newarray .int, 2) := by decide +kernel
theorem dX12_init_383 : decode cX12_init 383 = .ok (.dup, 1) := by decide +kernel
theorem dX12_init_384 : decode cX12_init 384 = .ok (.iconst 0, 1) := by decide +kernel
theorem dX12_init_385 : decode cX12_init 385 = .ok (.iconst 1, 1) := by decide +kernel
theorem dX12_init_386 : decode cX12_init 386 = .ok (.iastore, 1) := by decide +kernel
theorem dX12_init_387 : decode cX12_init 387 = .ok (.dup, 1) := by decide +kernel
theorem dX12_init_388 : decode cX12_init 388 = .ok (.iconst 1, 1) := by decide +kernel
theorem dX12_init_389 : decode cX12_init 389 = .ok (.iconst 0, 1) := by decide +kernel
theorem dX12_init_390 : decode cX12_init 390 = .ok (.iastore, 1) := by decide +kernel
theorem dX12_init_391 : decode cX12_init 391 = .ok (.dup, 1) := by decide +kernel
theorem dX12_init_392 : decode cX12_init 392 = .ok (.iconst 2, 1) := by decide +kernel
theorem dX12_init_393 : decode cX12_init 393 = .ok (.iconst (-1), 1) := by decide +kernel
theorem dX12_init_394 : decode cX12_init 394 = .ok (.iastore, 1) := by decide +kernel
theorem dX12_init_395 : decode cX12_init 395 = .ok (.dup, 1) := by decide +kernel
theorem dX12_init_396 : decode cX12_init 396 = .ok (.iconst 3, 1) := by decide +kernel
theorem dX12_init_397 : decode cX12_init 397 = .ok (.iconst 0, 1) := by decide +kernel
theorem dX12_init_398 : decode cX12_init 398 = .ok (.iastore, 1) := by decide +kernel
theorem dX12_init_399 : decode cX12_init 399 = .ok (.putfield 156, 3) := by decide +kernel
theorem dX12_init_402 : decode cX12_init 402 = .ok (.aload_n 0, 1) := by decide +kernel
theorem dX12_init_403 : decode cX12_init 403 = .ok (.iconst 4, 1) := by decide +kernel
theorem dX12_init_404 : decode cX12_init 404 = .ok (.newarray .int, 2) := by decide +kernel
theorem dX12_init_406 : decode cX12_init 406 = .ok (.dup, 1) := by decide +kernel
theorem dX12_init_407 : decode cX12_init 407 = .ok (.iconst 0, 1) := by decide +kernel
theorem dX12_init_408 : decode cX12_init 408 = .ok (.iconst 0, 1) := by decide +kernel
theorem dX12_init_409 : decode cX12_init 409 = .ok (.iastore, 1) := by decide +kernel
theorem dX12_init_410 : decode cX12_init 410 = .ok (.dup, 1) := by decide +kernel
theorem dX12_init_411 : decode cX12_init 411 = .ok (.iconst 1, 1) := by decide +kernel
theorem dX12_init_412 : decode cX12_init 412 = .ok (.iconst 1, 1) := by decide +kernel
theorem dX12_init_413 : decode cX12_init 413 = .ok (.iastore, 1) := by decide +kernel
theorem dX12_init_414 : decode cX12_init 414 = .ok (.dup, 1) := by decide +kernel
theorem dX12_init_415 : decode cX12_init 415 = .ok (.iconst 2, 1) := by decide +kernel
theorem dX12_init_416 : decode cX12_init 416 = .ok (.iconst 0, 1) := by decide +kernel
theorem dX12_init_417 : decode cX12_init 417 = .ok (.iastore, 1) := by decide +kernel
theorem dX12_init_418 : decode cX12_init 418 = .ok (.dup, 1) := by decide +kernel
theorem dX12_init_419 : decode cX12_init 419 = .ok (.iconst 3, 1) := by decide +kernel
theorem dX12_init_420 : decode cX12_init 420 = .ok (.iconst (-1), 1) := by decide +kernel
theorem dX12_init_421 : decode cX12_init 421 = .ok (.iastore, 1) := by decide +kernel
theorem dX12_init_422 : decode cX12_init 422 = .ok (.putfield 159, 3) := by decide +kernel
theorem dX12_init_425 : decode cX12_init 425 = .ok (.aload_n 0, 1) := by decide +kernel
theorem dX12_init_426 : decode cX12_init 426 = .ok (.bipush 9, 2) := by decide +kernel
theorem dX12_init_428 : decode cX12_init 428 = .ok (.newarray .int, 2) := by decide +kernel
theorem dX12_init_430 : decode cX12_init 430 = .ok (.putfield 162, 3) := by decide +kernel
theorem dX12_init_433 : decode cX12_init 433 = .ok (.aload_n 0, 1) := by decide +kernel
theorem dX12_init_434 : decode cX12_init 434 = .ok (.iconst 3, 1) := by decide +kernel
theorem dX12_init_435 : decode cX12_init 435 = .ok (.newarray .int, 2) := by decide +kernel
theorem dX12_init_437 : decode cX12_init 437 = .ok (.putfield 165, 3) := by decide +kernel
theorem dX12_init_440 : decode cX12_init 440 = .ok (.aload_n 0, 1) := by decide +kernel
theorem dX12_init_441 : decode cX12_init 441 = .ok (.iconst 4, 1) := by decide +kernel
theorem dX12_init_442 : decode cX12_init 442 = .ok (.newarray .int, 2) := by decide +kernel
theorem dX12_init_444 : decode cX12_init 444 = .ok (.putfield 168, 3) := by decide +kernel
theorem dX12_init_447 : decode cX12_init 447 = .ok (.aload_n 0, 1) := by decide +kernel
theorem dX12_init_448 : decode cX12_init 448 = .ok (.iconst 4, 1) := by decide +kernel
theorem dX12_init_449 : decode cX12_init 449 = .ok (.newarray .int, 2) := by decide +kernel
theorem dX12_init_451 : decode cX12_init 451 = .ok (.putfield 171, 3) := by decide +kernel
theorem dX12_init_454 : decode cX12_init 454 = .ok (.aload_n 0, 1) := by decide +kernel
theorem dX12_init_455 : decode cX12_init 455 = .ok (.iconst 4, 1) := by decide +kernel
theorem dX12_init_456 : decode cX12_init 456 = .ok (.newarray .int, 2) := by decide +kernel
theorem dX12_init_458 : decode cX12_init 458 = .ok (.putfield 174, 3) := by decide +kernel
theorem dX12_init_461 : decode cX12_init 461 = .ok (.aload_n 0, 1) := by decide +kernel
theorem dX12_init_462 : decode cX12_init 462 = .ok (.iconst 4, 1) := by decide +kernel
theorem dX12_init_463 : decode cX12_init 463 = .ok (.newarray .int, 2) := by decide +kernel
theorem dX12_init_465 : decode cX12_init 465 = .ok (.putfield 177, 3) := by decide +kernel
theorem dX12_init_468 : decode cX12_init 468 = .ok (.aload_n 0, 1) := by decide +kernel
theorem dX12_init_469 : decode cX12_init 469 = .ok (.bipush 8, 2) := by decide +kernel
theorem dX12_init_471 : decode cX12_init 471 = .ok (.newarray .int, 2) := by decide +kernel
theorem dX12_init_473 : decode cX12_init 473 = .ok (.putfield 180, 3) := by decide +kernel
theorem dX12_init_476 : decode cX12_init 476 = .ok (.aload_n 0, 1) := by decide +kernel
theorem dX12_init_477 : decode cX12_init 477 = .ok (.bipush 20, 2) := by decide +kernel
theorem dX12_init_479 : decode cX12_init 479 = .ok (.newarray .int, 2) := by decide +kernel
theorem dX12_init_481 : decode cX12_init 481 = .ok (.putfield 183, 3) := by decide +kernel
theorem dX12_init_484 : decode cX12_init 484 = .ok (.aload_n 0, 1) := by decide +kernel
theorem dX12_init_485 : decode cX12_init 485 = .ok (.bipush 20, 2) := by decide +kernel
theorem dX12_init_487 : decode cX12_init 487 = .ok (.newarray .int, 2) := by decide +kernel
theorem dX12_init_489 : decode cX12_init 489 = .ok (.putfield 186, 3) := by decide +kernel
theorem dX12_init_492 : decode cX12_init 492 = .ok (.aload_n 0, 1) := by decide +kernel
theorem dX12_init_493 : decode cX12_init 493 = .ok (.bipush 20, 2) := by decide +kernel
theorem dX12_init_495 : decode cX12_init 495 = .ok (.newarray .int, 2) := by decide +kernel
theorem dX12_init_497 : decode cX12_init 497 = .ok (.putfield 189, 3) := by decide +kernel
theorem dX12_init_500 : decode cX12_init 500 = .ok (.aload_n 0, 1) := by decide +kernel
theorem dX12_init_501 : decode cX12_init 501 = .ok (.bipush 8, 2) := by decide +kernel
theorem dX12_init_503 : decode cX12_init 503 = .ok (.newarray .int, 2) := by decide +kernel
theorem dX12_init_505 : decode cX12_init 505 = .ok (.putfield 192, 3) := by decide +kernel
theorem dX12_init_508 : decode cX12_init 508 = .ok (.aload_n 0, 1) := by decide +kernel
theorem dX12_init_509 : decode cX12_init 509 = .ok (.bipush 20, 2) := by decide +kernel
theorem dX12_init_511 : decode cX12_init 511 = .ok (.newarray .boolean, 2) := by decide +kernel
theorem dX12_init_513 : decode cX12_init 513 = .ok (.putfield 195, 3) := by decide +kernel
theorem dX12_init_516 : decode cX12_init 516 = .ok (.aload_n 0, 1) := by decide +kernel
theorem dX12_init_517 : decode cX12_init 517 = .ok (.bipush 6, 2) := by decide +kernel
theorem dX12_init_519 : decode cX12_init 519 = .ok (.newarray .int, 2) := by decide +kernel
theorem dX12_init_521 : decode cX12_init 521 = .ok (.putfield 198, 3) := by decide +kernel
theorem dX12_init_524 : decode cX12_init 524 = .ok (.aload_n 0, 1) := by decide +kernel
theorem dX12_init_525 : decode cX12_init 525 = .ok (.bipush 6, 2) := by decide +kernel
theorem dX12_init_527 : decode cX12_init 527 = .ok (.newarray .int, 2) := by decide +kernel
theorem dX12_init_529 : decode cX12_init 529 = .ok (.putfield 201, 3) := by decide +kernel
theorem dX12_init_532 : decode cX12_init 532 = .ok (.aload_n 0, 1) := by decide +kernel
theorem dX12_init_533 : decode cX12_init 533 = .ok (.bipush 6, 2) := by decide +kernel
theorem dX12_init_535 : decode cX12_init 535 = .ok (.newarray .int, 2) := by decide +kernel
theorem dX12_init_537 : decode cX12_init 537 = .ok (.putfield 204, 3) := by decide +kernel
theorem dX12_init_540 : decode cX12_init 540 = .ok (.iconst 0, 1) := by decide +kernel
theorem dX12_init_541 : decode cX12_init 541 = .ok (.istore_n 1, 1) := by decide +kernel
theorem dX12_init_542 : decode cX12_init 542 = .ok (.iload_n 1, 1) := by decide +kernel
theorem dX12_init_543 : decode cX12_init 543 = .ok (.bipush 9, 2) := by decide +kernel
theorem dX12_init_545 : decode cX12_init 545 = .ok (.if_icmp .ge 16, 3) := by decide +kernel
theorem dX12_init_548 : decode cX12_init 548 = .ok (.aload_n 0, 1) := by decide +kernel
theorem dX12_init_549 : decode cX12_init 549 = .ok (.getfield 162, 3) := by decide +kernel
theorem dX12_init_552 : decode cX12_init 552 = .ok (.iload_n 1, 1) := by decide +kernel
theorem dX12_init_553 : decode cX12_init 553 = .ok (.iconst 1, 1) := by decide +kernel
theorem dX12_init_554 : decode cX12_init 554 = .ok (.iastore, 1) := by decide +kernel
theorem dX12_init_555 : decode cX12_init 555 = .ok (.iinc 1 1, 3) := by decide +kernel
theorem dX12_init_558 : decode cX12_init 558 = .ok (.goto (-16), 3) := by decide +kernel
theorem dX12_init_561 : decode cX12_init 561 = .ok (.iconst 0, 1) := by decide +kernel
theorem dX12_init_562 : decode cX12_init 562 = .ok (.istore_n 1, 1) := by decide +kernel
theorem dX12_init_563 : decode cX12_init 563 = .ok (.iload_n 1, 1) := by decide +kernel
theorem dX12_init_564 : decode cX12_init 564 = .ok (.bipush 8, 2) := by decide +kernel
theorem dX12_init_566 : decode cX12_init 566 = .ok (.if_icmp .ge 16, 3) := by decide +kernel
theorem dX12_init_569 : decode cX12_init 569 = .ok (.aload_n 0, 1) := by decide +kernel
theorem dX12_init_570 : decode cX12_init 570 = .ok (.getfield 180, 3) := by decide +kernel
theorem dX12_init_573 : decode cX12_init 573 = .ok (.iload_n 1, 1) := by decide +kernel
theorem dX12_init_574 : decode cX12_init 574 = .ok (.iconst 3, 1) := by decide +kernel
theorem dX12_init_575 : decode cX12_init 575 = .ok (.iastore, 1) := by decide +kernel
theorem dX12_init_576 : decode cX12_init 576 = .ok (.iinc 1 1, 3) := by decide +kernel
theorem dX12_init_579 : decode cX12_init 579 = .ok (.goto (-16), 3) := by decide +kernel
theorem dX12_init_582 : decode cX12_init 582 = .ok (.iconst 0, 1) := by decide +kernel
theorem dX12_init_583 : decode cX12_init 583 = .ok (.istore_n 1, 1) := by decide +kernel
theorem dX12_init_584 : decode cX12_init 584 = .ok (.iload_n 1, 1) := by decide +kernel
theorem dX12_init_585 : decode cX12_init 585 = .ok (.iconst 4, 1) := by decide +kernel
theorem dX12_init_586 : decode cX12_init 586 = .ok (.if_icmp .ge 16, 3) := by decide +kernel
theorem dX12_init_589 : decode cX12_init 589 = .ok (.aload_n 0, 1) := by decide +kernel
theorem dX12_init_590 : decode cX12_init 590 = .ok (.getfield 171, 3) := by decide +kernel
theorem dX12_init_593 : decode cX12_init 593 = .ok (.iload_n 1, 1) := by decide +kernel
theorem dX12_init_594 : decode cX12_init 594 = .ok (.iconst 1, 1) := by decide +kernel
theorem dX12_init_595 : decode cX12_init 595 = .ok (.iastore, 1) := by decide +kernel
theorem dX12_init_596 : decode cX12_init 596 = .ok (.iinc 1 1, 3) := by decide +kernel
theorem dX12_init_599 : decode cX12_init 599 = .ok (.goto (-15), 3) := by decide +kernel
theorem dX12_init_602 : decode cX12_init 602 = .ok (.iconst 0, 1) := by decide +kernel
theorem dX12_init_603 : decode cX12_init 603 = .ok (.istore_n 1, 1) := by decide +kernel
theorem dX12_init_604 : decode cX12_init 604 = .ok (.iload_n 1, 1) := by decide +kernel
theorem dX12_init_605 : decode cX12_init 605 = .ok (.iconst 3, 1) := by decide +kernel
theorem dX12_init_606 : decode cX12_init 606 = .ok (.if_icmp .ge 16, 3) := by decide +kernel
theorem dX12_init_609 : decode cX12_init 609 = .ok (.aload_n 0, 1) := by decide +kernel
theorem dX12_init_610 : decode cX12_init 610 = .ok (.getfield 165, 3) := by decide +kernel
theorem dX12_init_613 : decode cX12_init 613 = .ok (.iload_n 1, 1) := by decide +kernel
theorem dX12_init_614 : decode cX12_init 614 = .ok (.iconst (-1), 1) := by decide +kernel
theorem dX12_init_615 : decode cX12_init 615 = .ok (.iastore, 1) := by decide +kernel
theorem dX12_init_616 : decode cX12_init 616 = .ok (.iinc 1 1, 3) := by decide +kernel
theorem dX12_init_619 : decode cX12_init 619 = .ok (.goto (-15), 3) := by decide +kernel
theorem dX12_init_622 : decode cX12_init 622 = .ok (.return_, 1) := by decide +kernel
theorem dX12_no_0 : decode cX12_no 0 = .ok (.aload_n 0, 1) := by decide +kernel
theorem dX12_no_1 : decode cX12_no 1 = .ok (.getfield 7, 3) := by decide +kernel
theorem dX12_no_4 : decode cX12_no 4 = .ok (.iload_n 1, 1) := by decide +kernel
theorem dX12_no_5 : decode cX12_no 5 = .ok (.ineg, 1) := by decide +kernel
theorem dX12_no_6 : decode cX12_no 6 = .ok (.dup2, 1) := by decide +kernel
theorem dX12_no_7 : decode cX12_no 7 = .ok (.iaload, 1) := by decide +kernel
theorem dX12_no_8 : decode cX12_no 8 = .ok (.iconst 1, 1) := by decide +kernel
theorem dX12_no_9 : decode cX12_no 9 = .ok (.iadd, 1) := by decide +kernel
theorem dX12_no_10 : decode cX12_no 10 = .ok (.iastore, 1) := by decide +kernel
theorem dX12_no_11 : decode cX12_no 11 = .ok (.iload_n 1, 1) := by decide +kernel
theorem dX12_no_12 : decode cX12_no 12 = .ok (.ireturn, 1) := by decide +kernel
theorem dX12_isIn_0 : decode cX12_isIn 0 = .ok (.lload_n 0, 1) := by decide +kernel
theorem dX12_isIn_1 : decode cX12_isIn 1 = .ok (.lload_n 2, 1) := by decide +kernel
theorem dX12_isIn_2 : decode cX12_isIn 2 = .ok (.lcmp, 1) := by decide +kernel
theorem dX12_isIn_3 : decode cX12_isIn 3 = .ok (.ifCond .lt 14, 3) := by decide +kernel
theorem dX12_isIn_6 : decode cX12_isIn 6 = .ok (.lload_n 0, 1) := by decide +kernel
theorem dX12_isIn_7 : decode cX12_isIn 7 = .ok (.lload 4, 2) := by decide +kernel
theorem dX12_isIn_9 : decode cX12_isIn 9 = .ok (.lcmp, 1) := by decide +kernel
theorem dX12_isIn_10 : decode cX12_isIn 10 = .ok (.ifCond .gt 7, 3) := by decide +kernel
theorem dX12_isIn_13 : decode cX12_isIn 13 = .ok (.iconst 1, 1) := by decide +kernel
theorem dX12_isIn_14 : decode cX12_isIn 14 = .ok (.goto 4, 3) := by decide +kernel
theorem dX12_isIn_17 : decode cX12_isIn 17 = .ok (.iconst 0, 1) := by decide +kernel
theorem dX12_isIn_18 : decode cX12_isIn 18 = .ok (.ireturn, 1) := by decide +kernel
theorem dX12_out_0 : decode cX12_out 0 = .ok (.lload_n 0, 1) := by decide +kernel
theorem dX12_out_1 : decode cX12_out 1 = .ok (.lload_n 2, 1) := by decide +kernel
theorem dX12_out_2 : decode cX12_out 2 = .ok (.lcmp, 1) := by decide +kernel
theorem dX12_out_3 : decode cX12_out 3 = .ok (.ifCond .ge 8, 3) := by decide +kernel
theorem dX12_out_6 : decode cX12_out 6 = .ok (.bipush (-4), 2) := by decide +kernel
theorem dX12_out_8 : decode cX12_out 8 = .ok (.goto 16, 3) := by decide +kernel
theorem dX12_out_11 : decode cX12_out 11 = .ok (.lload_n 0, 1) := by decide +kernel
theorem dX12_out_12 : decode cX12_out 12 = .ok (.lload 4, 2) := by decide +kernel
theorem dX12_out_14 : decode cX12_out 14 = .ok (.lcmp, 1) := by decide +kernel
theorem dX12_out_15 : decode cX12_out 15 = .ok (.ifCond .le 8, 3) := by decide +kernel
theorem dX12_out_18 : decode cX12_out 18 = .ok (.bipush (-6), 2) := by decide +kernel
theorem dX12_out_20 : decode cX12_out 20 = .ok (.goto 4, 3) := by decide +kernel
theorem dX12_out_23 : decode cX12_out 23 = .ok (.iconst 0, 1) := by decide +kernel
theorem dX12_out_24 : decode cX12_out 24 = .ok (.ireturn, 1) := by decide +kernel
theorem dX12_least_0 : decode cX12_least 0 = .ok (.lload_n 0, 1) := by decide +kernel
theorem dX12_least_1 : decode cX12_least 1 = .ok (.ldc2_w 207, 3) := by decide +kernel
theorem dX12_least_4 : decode cX12_least 4 = .ok (.lcmp, 1) := by decide +kernel
theorem dX12_least_5 : decode cX12_least 5 = .ok (.ifCond .le 8, 3) := by decide +kernel
theorem dX12_least_8 : decode cX12_least 8 = .ok (.ldc 209, 2) := by decide +kernel
theorem dX12_least_10 : decode cX12_least 10 = .ok (.goto 5, 3) := by decide +kernel
theorem dX12_least_13 : decode cX12_least 13 = .ok (.lload_n 0, 1) := by decide +kernel
theorem dX12_least_14 : decode cX12_least 14 = .ok (.l2i, 1) := by decide +kernel
theorem dX12_least_15 : decode cX12_least 15 = .ok (.ireturn, 1) := by decide +kernel
theorem dX12_isRoom_0 : decode cX12_isRoom 0 = .ok (.iload_n 1, 1) := by decide +kernel
theorem dX12_isRoom_1 : decode cX12_isRoom 1 = .ok (.ifCond .lt 15, 3) := by decide +kernel
theorem dX12_isRoom_4 : decode cX12_isRoom 4 = .ok (.iload_n 1, 1) := by decide +kernel
theorem dX12_isRoom_5 : decode cX12_isRoom 5 = .ok (.aload_n 0, 1) := by decide +kernel
theorem dX12_isRoom_6 : decode cX12_isRoom 6 = .ok (.getfield 210, 3) := by decide +kernel
theorem dX12_isRoom_9 : decode cX12_isRoom 9 = .ok (.if_icmp .ge 7, 3) := by decide +kernel
theorem dX12_isRoom_12 : decode cX12_isRoom 12 = .ok (.iconst 1, 1) := by decide +kernel
theorem dX12_isRoom_13 : decode cX12_isRoom 13 = .ok (.goto 4, 3) := by decide +kernel
theorem dX12_isRoom_16 : decode cX12_isRoom 16 = .ok (.iconst 0, 1) := by decide +kernel
theorem dX12_isRoom_17 : decode cX12_isRoom 17 = .ok (.ireturn, 1) := by decide +kernel
theorem dX12_isGas_0 : decode cX12_isGas 0 = .ok (.iload_n 0, 1) := by decide +kernel
theorem dX12_isGas_1 : decode cX12_isGas 1 = .ok (.ifCond .lt 12, 3) := by decide +kernel
theorem dX12_isGas_4 : decode cX12_isGas 4 = .ok (.iload_n 0, 1) := by decide +kernel
theorem dX12_isGas_5 : decode cX12_isGas 5 = .ok (.iconst 3, 1) := by decide +kernel
theorem dX12_isGas_6 : decode cX12_isGas 6 = .ok (.if_icmp .ge 7, 3) := by decide +kernel
theorem dX12_isGas_9 : decode cX12_isGas 9 = .ok (.iconst 1, 1) := by decide +kernel
theorem dX12_isGas_10 : decode cX12_isGas 10 = .ok (.goto 4, 3) := by decide +kernel
theorem dX12_isGas_13 : decode cX12_isGas 13 = .ok (.iconst 0, 1) := by decide +kernel
theorem dX12_isGas_14 : decode cX12_isGas 14 = .ok (.ireturn, 1) := by decide +kernel
theorem dX12_isPipe_0 : decode cX12_isPipe 0 = .ok (.iload_n 1, 1) := by decide +kernel
theorem dX12_isPipe_1 : decode cX12_isPipe 1 = .ok (.ifCond .lt 15, 3) := by decide +kernel
theorem dX12_isPipe_4 : decode cX12_isPipe 4 = .ok (.iload_n 1, 1) := by decide +kernel
theorem dX12_isPipe_5 : decode cX12_isPipe 5 = .ok (.aload_n 0, 1) := by decide +kernel
theorem dX12_isPipe_6 : decode cX12_isPipe 6 = .ok (.getfield 214, 3) := by decide +kernel
theorem dX12_isPipe_9 : decode cX12_isPipe 9 = .ok (.if_icmp .ge 7, 3) := by decide +kernel
theorem dX12_isPipe_12 : decode cX12_isPipe 12 = .ok (.iconst 1, 1) := by decide +kernel
theorem dX12_isPipe_13 : decode cX12_isPipe 13 = .ok (.goto 4, 3) := by decide +kernel
theorem dX12_isPipe_16 : decode cX12_isPipe 16 = .ok (.iconst 0, 1) := by decide +kernel
theorem dX12_isPipe_17 : decode cX12_isPipe 17 = .ok (.ireturn, 1) := by decide +kernel
theorem dX12_isPump_0 : decode cX12_isPump 0 = .ok (.iload_n 1, 1) := by decide +kernel
theorem dX12_isPump_1 : decode cX12_isPump 1 = .ok (.ifCond .lt 15, 3) := by decide +kernel
theorem dX12_isPump_4 : decode cX12_isPump 4 = .ok (.iload_n 1, 1) := by decide +kernel
theorem dX12_isPump_5 : decode cX12_isPump 5 = .ok (.aload_n 0, 1) := by decide +kernel
theorem dX12_isPump_6 : decode cX12_isPump 6 = .ok (.getfield 217, 3) := by decide +kernel
theorem dX12_isPump_9 : decode cX12_isPump 9 = .ok (.if_icmp .ge 7, 3) := by decide +kernel
theorem dX12_isPump_12 : decode cX12_isPump 12 = .ok (.iconst 1, 1) := by decide +kernel
theorem dX12_isPump_13 : decode cX12_isPump 13 = .ok (.goto 4, 3) := by decide +kernel
theorem dX12_isPump_16 : decode cX12_isPump 16 = .ok (.iconst 0, 1) := by decide +kernel
theorem dX12_isPump_17 : decode cX12_isPump 17 = .ok (.ireturn, 1) := by decide +kernel
theorem dX12_room_0 : decode cX12_room 0 = .ok (.iload_n 2, 1) := by decide +kernel
theorem dX12_room_1 : decode cX12_room 1 = .ok (.i2l, 1) := by decide +kernel
theorem dX12_room_2 : decode cX12_room 2 = .ok (.lconst 0, 1) := by decide +kernel
theorem dX12_room_3 : decode cX12_room 3 = .ok (.ldc2_w 220, 3) := by decide +kernel
theorem dX12_room_6 : decode cX12_room 6 = .ok (.invokestatic 222, 3) := by decide +kernel
theorem dX12_room_9 : decode cX12_room 9 = .ok (.ifCond .ne 9, 3) := by decide +kernel
theorem dX12_room_12 : decode cX12_room 12 = .ok (.aload_n 0, 1) := by decide +kernel
theorem dX12_room_13 : decode cX12_room 13 = .ok (.iconst (-1), 1) := by decide +kernel
theorem dX12_room_14 : decode cX12_room 14 = .ok (.invokevirtual 226, 3) := by decide +kernel
theorem dX12_room_17 : decode cX12_room 17 = .ok (.ireturn, 1) := by decide +kernel
theorem dX12_room_18 : decode cX12_room 18 = .ok (.iload_n 1, 1) := by decide +kernel
theorem dX12_room_19 : decode cX12_room 19 = .ok (.i2l, 1) := by decide +kernel
theorem dX12_room_20 : decode cX12_room 20 = .ok (.lconst 1, 1) := by decide +kernel
theorem dX12_room_21 : decode cX12_room 21 = .ok (.ldc2_w 230, 3) := by decide +kernel
theorem dX12_room_24 : decode cX12_room 24 = .ok (.invokestatic 232, 3) := by decide +kernel
theorem dX12_room_27 : decode cX12_room 27 = .ok (.istore_n 3, 1) := by decide +kernel
theorem dX12_room_28 : decode cX12_room 28 = .ok (.iload_n 3, 1) := by decide +kernel
theorem dX12_room_29 : decode cX12_room 29 = .ok (.ifCond .ne 14, 3) := by decide +kernel
theorem dX12_room_32 : decode cX12_room 32 = .ok (.aload_n 0, 1) := by decide +kernel
theorem dX12_room_33 : decode cX12_room 33 = .ok (.getfield 210, 3) := by decide +kernel
theorem dX12_room_36 : decode cX12_room 36 = .ok (.iconst 5, 1) := by decide +kernel
theorem dX12_room_37 : decode cX12_room 37 = .ok (.if_icmp .ne 6, 3) := by decide +kernel
theorem dX12_room_40 : decode cX12_room 40 = .ok (.bipush (-6), 2) := by decide +kernel
theorem dX12_room_42 : decode cX12_room 42 = .ok (.istore_n 3, 1) := by decide +kernel
theorem dX12_room_43 : decode cX12_room 43 = .ok (.iload_n 3, 1) := by decide +kernel
theorem dX12_room_44 : decode cX12_room 44 = .ok (.ifCond .eq 9, 3) := by decide +kernel
theorem dX12_room_47 : decode cX12_room 47 = .ok (.aload_n 0, 1) := by decide +kernel
theorem dX12_room_48 : decode cX12_room 48 = .ok (.iload_n 3, 1) := by decide +kernel
theorem dX12_room_49 : decode cX12_room 49 = .ok (.invokevirtual 226, 3) := by decide +kernel
theorem dX12_room_52 : decode cX12_room 52 = .ok (.ireturn, 1) := by decide +kernel
theorem dX12_room_53 : decode cX12_room 53 = .ok (.aload_n 0, 1) := by decide +kernel
theorem dX12_room_54 : decode cX12_room 54 = .ok (.invokevirtual 235, 3) := by decide +kernel
theorem dX12_room_57 : decode cX12_room 57 = .ok (.aload_n 0, 1) := by decide +kernel
theorem dX12_room_58 : decode cX12_room 58 = .ok (.getfield 13, 3) := by decide +kernel
theorem dX12_room_61 : decode cX12_room 61 = .ok (.aload_n 0, 1) := by decide +kernel
theorem dX12_room_62 : decode cX12_room 62 = .ok (.getfield 210, 3) := by decide +kernel
theorem dX12_room_65 : decode cX12_room 65 = .ok (.iload_n 1, 1) := by decide +kernel
theorem dX12_room_66 : decode cX12_room 66 = .ok (.iastore, 1) := by decide +kernel
theorem dX12_room_67 : decode cX12_room 67 = .ok (.aload_n 0, 1) := by decide +kernel
theorem dX12_room_68 : decode cX12_room 68 = .ok (.getfield 16, 3) := by decide +kernel
theorem dX12_room_71 : decode cX12_room 71 = .ok (.aload_n 0, 1) := by decide +kernel
theorem dX12_room_72 : decode cX12_room 72 = .ok (.getfield 210, 3) := by decide +kernel
theorem dX12_room_75 : decode cX12_room 75 = .ok (.iload_n 2, 1) := by decide +kernel
theorem dX12_room_76 : decode cX12_room 76 = .ok (.iastore, 1) := by decide +kernel
theorem dX12_room_77 : decode cX12_room 77 = .ok (.aload_n 0, 1) := by decide +kernel
theorem dX12_room_78 : decode cX12_room 78 = .ok (.getfield 19, 3) := by decide +kernel
theorem dX12_room_81 : decode cX12_room 81 = .ok (.aload_n 0, 1) := by decide +kernel
theorem dX12_room_82 : decode cX12_room 82 = .ok (.getfield 210, 3) := by decide +kernel
theorem dX12_room_85 : decode cX12_room 85 = .ok (.iconst 5, 1) := by decide +kernel
theorem dX12_room_86 : decode cX12_room 86 = .ok (.iastore, 1) := by decide +kernel
theorem dX12_room_87 : decode cX12_room 87 = .ok (.aload_n 0, 1) := by decide +kernel
theorem dX12_room_88 : decode cX12_room 88 = .ok (.dup, 1) := by decide +kernel
theorem dX12_room_89 : decode cX12_room 89 = .ok (.getfield 210, 3) := by decide +kernel
theorem dX12_room_92 : decode cX12_room 92 = .ok (.iconst 1, 1) := by decide +kernel
theorem dX12_room_93 : decode cX12_room 93 = .ok (.iadd, 1) := by decide +kernel
theorem dX12_room_94 : decode cX12_room 94 = .ok (.putfield 210, 3) := by decide +kernel
theorem dX12_room_97 : decode cX12_room 97 = .ok (.aload_n 0, 1) := by decide +kernel
theorem dX12_room_98 : decode cX12_room 98 = .ok (.getfield 210, 3) := by decide +kernel
theorem dX12_room_101 : decode cX12_room 101 = .ok (.iconst 1, 1) := by decide +kernel
theorem dX12_room_102 : decode cX12_room 102 = .ok (.isub, 1) := by decide +kernel
theorem dX12_room_103 : decode cX12_room 103 = .ok (.ireturn, 1) := by decide +kernel
theorem dX12_warm_0 : decode cX12_warm 0 = .ok (.aload_n 0, 1) := by decide +kernel
theorem dX12_warm_1 : decode cX12_warm 1 = .ok (.iload_n 1, 1) := by decide +kernel
theorem dX12_warm_2 : decode cX12_warm 2 = .ok (.invokevirtual 238, 3) := by decide +kernel
theorem dX12_warm_5 : decode cX12_warm 5 = .ok (.ifCond .ne 9, 3) := by decide +kernel
theorem dX12_warm_8 : decode cX12_warm 8 = .ok (.aload_n 0, 1) := by decide +kernel
theorem dX12_warm_9 : decode cX12_warm 9 = .ok (.iconst (-1), 1) := by decide +kernel
theorem dX12_warm_10 : decode cX12_warm 10 = .ok (.invokevirtual 226, 3) := by decide +kernel
theorem dX12_warm_13 : decode cX12_warm 13 = .ok (.ireturn, 1) := by decide +kernel
theorem dX12_warm_14 : decode cX12_warm 14 = .ok (.iload_n 2, 1) := by decide +kernel
theorem dX12_warm_15 : decode cX12_warm 15 = .ok (.i2l, 1) := by decide +kernel
theorem dX12_warm_16 : decode cX12_warm 16 = .ok (.lconst 0, 1) := by decide +kernel
theorem dX12_warm_17 : decode cX12_warm 17 = .ok (.ldc2_w 242, 3) := by decide +kernel
theorem dX12_warm_20 : decode cX12_warm 20 = .ok (.invokestatic 232, 3) := by decide +kernel
theorem dX12_warm_23 : decode cX12_warm 23 = .ok (.istore_n 3, 1) := by decide +kernel
theorem dX12_warm_24 : decode cX12_warm 24 = .ok (.iload_n 3, 1) := by decide +kernel
theorem dX12_warm_25 : decode cX12_warm 25 = .ok (.ifCond .eq 9, 3) := by decide +kernel
theorem dX12_warm_28 : decode cX12_warm 28 = .ok (.aload_n 0, 1) := by decide +kernel
theorem dX12_warm_29 : decode cX12_warm 29 = .ok (.iload_n 3, 1) := by decide +kernel
theorem dX12_warm_30 : decode cX12_warm 30 = .ok (.invokevirtual 226, 3) := by decide +kernel
theorem dX12_warm_33 : decode cX12_warm 33 = .ok (.ireturn, 1) := by decide +kernel
theorem dX12_warm_34 : decode cX12_warm 34 = .ok (.aload_n 0, 1) := by decide +kernel
theorem dX12_warm_35 : decode cX12_warm 35 = .ok (.invokevirtual 235, 3) := by decide +kernel
theorem dX12_warm_38 : decode cX12_warm 38 = .ok (.aload_n 0, 1) := by decide +kernel
theorem dX12_warm_39 : decode cX12_warm 39 = .ok (.getfield 19, 3) := by decide +kernel
theorem dX12_warm_42 : decode cX12_warm 42 = .ok (.iload_n 1, 1) := by decide +kernel
theorem dX12_warm_43 : decode cX12_warm 43 = .ok (.iaload, 1) := by decide +kernel
theorem dX12_warm_44 : decode cX12_warm 44 = .ok (.istore 4, 2) := by decide +kernel
theorem dX12_warm_46 : decode cX12_warm 46 = .ok (.aload_n 0, 1) := by decide +kernel
theorem dX12_warm_47 : decode cX12_warm 47 = .ok (.getfield 19, 3) := by decide +kernel
theorem dX12_warm_50 : decode cX12_warm 50 = .ok (.iload_n 1, 1) := by decide +kernel
theorem dX12_warm_51 : decode cX12_warm 51 = .ok (.iload_n 2, 1) := by decide +kernel
theorem dX12_warm_52 : decode cX12_warm 52 = .ok (.iastore, 1) := by decide +kernel
theorem dX12_warm_53 : decode cX12_warm 53 = .ok (.iload 4, 2) := by decide +kernel
theorem dX12_warm_55 : decode cX12_warm 55 = .ok (.ireturn, 1) := by decide +kernel
theorem dX12_gas_0 : decode cX12_gas 0 = .ok (.aload_n 0, 1) := by decide +kernel
theorem dX12_gas_1 : decode cX12_gas 1 = .ok (.iload_n 1, 1) := by decide +kernel
theorem dX12_gas_2 : decode cX12_gas 2 = .ok (.invokevirtual 238, 3) := by decide +kernel
theorem dX12_gas_5 : decode cX12_gas 5 = .ok (.ifCond .eq 10, 3) := by decide +kernel
theorem dX12_gas_8 : decode cX12_gas 8 = .ok (.iload_n 2, 1) := by decide +kernel
theorem dX12_gas_9 : decode cX12_gas 9 = .ok (.invokestatic 244, 3) := by decide +kernel
theorem dX12_gas_12 : decode cX12_gas 12 = .ok (.ifCond .ne 9, 3) := by decide +kernel
theorem dX12_gas_15 : decode cX12_gas 15 = .ok (.aload_n 0, 1) := by decide +kernel
theorem dX12_gas_16 : decode cX12_gas 16 = .ok (.iconst (-1), 1) := by decide +kernel
theorem dX12_gas_17 : decode cX12_gas 17 = .ok (.invokevirtual 226, 3) := by decide +kernel
theorem dX12_gas_20 : decode cX12_gas 20 = .ok (.ireturn, 1) := by decide +kernel
theorem dX12_gas_21 : decode cX12_gas 21 = .ok (.iload_n 3, 1) := by decide +kernel
theorem dX12_gas_22 : decode cX12_gas 22 = .ok (.i2l, 1) := by decide +kernel
theorem dX12_gas_23 : decode cX12_gas 23 = .ok (.lconst 1, 1) := by decide +kernel
theorem dX12_gas_24 : decode cX12_gas 24 = .ok (.ldc2_w 247, 3) := by decide +kernel
theorem dX12_gas_27 : decode cX12_gas 27 = .ok (.invokestatic 232, 3) := by decide +kernel
theorem dX12_gas_30 : decode cX12_gas 30 = .ok (.istore 5, 2) := by decide +kernel
theorem dX12_gas_32 : decode cX12_gas 32 = .ok (.iconst 3, 1) := by decide +kernel
theorem dX12_gas_33 : decode cX12_gas 33 = .ok (.iload_n 1, 1) := by decide +kernel
theorem dX12_gas_34 : decode cX12_gas 34 = .ok (.imul, 1) := by decide +kernel
theorem dX12_gas_35 : decode cX12_gas 35 = .ok (.iload_n 2, 1) := by decide +kernel
theorem dX12_gas_36 : decode cX12_gas 36 = .ok (.iadd, 1) := by decide +kernel
theorem dX12_gas_37 : decode cX12_gas 37 = .ok (.istore 6, 2) := by decide +kernel
theorem dX12_gas_39 : decode cX12_gas 39 = .ok (.iload 5, 2) := by decide +kernel
theorem dX12_gas_41 : decode cX12_gas 41 = .ok (.ifCond .ne 36, 3) := by decide +kernel
theorem dX12_gas_44 : decode cX12_gas 44 = .ok (.iload 4, 2) := by decide +kernel
theorem dX12_gas_46 : decode cX12_gas 46 = .ok (.ifCond .eq 13, 3) := by decide +kernel
theorem dX12_gas_49 : decode cX12_gas 49 = .ok (.aload_n 0, 1) := by decide +kernel
theorem dX12_gas_50 : decode cX12_gas 50 = .ok (.getfield 49, 3) := by decide +kernel
theorem dX12_gas_53 : decode cX12_gas 53 = .ok (.iload 6, 2) := by decide +kernel
theorem dX12_gas_55 : decode cX12_gas 55 = .ok (.iaload, 1) := by decide +kernel
theorem dX12_gas_56 : decode cX12_gas 56 = .ok (.goto 10, 3) := by decide +kernel
theorem dX12_gas_59 : decode cX12_gas 59 = .ok (.aload_n 0, 1) := by decide +kernel
theorem dX12_gas_60 : decode cX12_gas 60 = .ok (.getfield 46, 3) := by decide +kernel
theorem dX12_gas_63 : decode cX12_gas 63 = .ok (.iload 6, 2) := by decide +kernel
theorem dX12_gas_65 : decode cX12_gas 65 = .ok (.iaload, 1) := by decide +kernel
theorem dX12_gas_66 : decode cX12_gas 66 = .ok (.iload_n 3, 1) := by decide +kernel
theorem dX12_gas_67 : decode cX12_gas 67 = .ok (.iadd, 1) := by decide +kernel
theorem dX12_gas_68 : decode cX12_gas 68 = .ok (.ldc 249, 2) := by decide +kernel
theorem dX12_gas_70 : decode cX12_gas 70 = .ok (.if_icmp .le 7, 3) := by decide +kernel
theorem dX12_gas_73 : decode cX12_gas 73 = .ok (.bipush (-6), 2) := by decide +kernel
theorem dX12_gas_75 : decode cX12_gas 75 = .ok (.istore 5, 2) := by decide +kernel
theorem dX12_gas_77 : decode cX12_gas 77 = .ok (.iload 5, 2) := by decide +kernel
theorem dX12_gas_79 : decode cX12_gas 79 = .ok (.ifCond .eq 10, 3) := by decide +kernel
theorem dX12_gas_82 : decode cX12_gas 82 = .ok (.aload_n 0, 1) := by decide +kernel
theorem dX12_gas_83 : decode cX12_gas 83 = .ok (.iload 5, 2) := by decide +kernel
theorem dX12_gas_85 : decode cX12_gas 85 = .ok (.invokevirtual 226, 3) := by decide +kernel
theorem dX12_gas_88 : decode cX12_gas 88 = .ok (.ireturn, 1) := by decide +kernel
theorem dX12_gas_89 : decode cX12_gas 89 = .ok (.aload_n 0, 1) := by decide +kernel
theorem dX12_gas_90 : decode cX12_gas 90 = .ok (.invokevirtual 235, 3) := by decide +kernel
theorem dX12_gas_93 : decode cX12_gas 93 = .ok (.aload_n 0, 1) := by decide +kernel
theorem dX12_gas_94 : decode cX12_gas 94 = .ok (.getfield 55, 3) := by decide +kernel
theorem dX12_gas_97 : decode cX12_gas 97 = .ok (.iload_n 2, 1) := by decide +kernel
theorem dX12_gas_98 : decode cX12_gas 98 = .ok (.dup2, 1) := by decide +kernel
theorem dX12_gas_99 : decode cX12_gas 99 = .ok (.iaload, 1) := by decide +kernel
theorem dX12_gas_100 : decode cX12_gas 100 = .ok (.iload_n 3, 1) := by decide +kernel
theorem dX12_gas_101 : decode cX12_gas 101 = .ok (.iadd, 1) := by decide +kernel
theorem dX12_gas_102 : decode cX12_gas 102 = .ok (.iastore, 1) := by decide +kernel
theorem dX12_gas_103 : decode cX12_gas 103 = .ok (.iload 4, 2) := by decide +kernel
theorem dX12_gas_105 : decode cX12_gas 105 = .ok (.ifCond .eq 17, 3) := by decide +kernel
theorem dX12_gas_108 : decode cX12_gas 108 = .ok (.aload_n 0, 1) := by decide +kernel
theorem dX12_gas_109 : decode cX12_gas 109 = .ok (.getfield 49, 3) := by decide +kernel
theorem dX12_gas_112 : decode cX12_gas 112 = .ok (.iload 6, 2) := by decide +kernel
theorem dX12_gas_114 : decode cX12_gas 114 = .ok (.dup2, 1) := by decide +kernel
theorem dX12_gas_115 : decode cX12_gas 115 = .ok (.iaload, 1) := by decide +kernel
theorem dX12_gas_116 : decode cX12_gas 116 = .ok (.iload_n 3, 1) := by decide +kernel
theorem dX12_gas_117 : decode cX12_gas 117 = .ok (.iadd, 1) := by decide +kernel
theorem dX12_gas_118 : decode cX12_gas 118 = .ok (.iastore, 1) := by decide +kernel
theorem dX12_gas_119 : decode cX12_gas 119 = .ok (.goto 14, 3) := by decide +kernel
theorem dX12_gas_122 : decode cX12_gas 122 = .ok (.aload_n 0, 1) := by decide +kernel
theorem dX12_gas_123 : decode cX12_gas 123 = .ok (.getfield 46, 3) := by decide +kernel
theorem dX12_gas_126 : decode cX12_gas 126 = .ok (.iload 6, 2) := by decide +kernel
theorem dX12_gas_128 : decode cX12_gas 128 = .ok (.dup2, 1) := by decide +kernel
theorem dX12_gas_129 : decode cX12_gas 129 = .ok (.iaload, 1) := by decide +kernel
theorem dX12_gas_130 : decode cX12_gas 130 = .ok (.iload_n 3, 1) := by decide +kernel
theorem dX12_gas_131 : decode cX12_gas 131 = .ok (.iadd, 1) := by decide +kernel
theorem dX12_gas_132 : decode cX12_gas 132 = .ok (.iastore, 1) := by decide +kernel
theorem dX12_gas_133 : decode cX12_gas 133 = .ok (.iload 4, 2) := by decide +kernel
theorem dX12_gas_135 : decode cX12_gas 135 = .ok (.ifCond .eq 13, 3) := by decide +kernel
theorem dX12_gas_138 : decode cX12_gas 138 = .ok (.aload_n 0, 1) := by decide +kernel
theorem dX12_gas_139 : decode cX12_gas 139 = .ok (.getfield 49, 3) := by decide +kernel
theorem dX12_gas_142 : decode cX12_gas 142 = .ok (.iload 6, 2) := by decide +kernel
theorem dX12_gas_144 : decode cX12_gas 144 = .ok (.iaload, 1) := by decide +kernel
theorem dX12_gas_145 : decode cX12_gas 145 = .ok (.goto 10, 3) := by decide +kernel
theorem dX12_gas_148 : decode cX12_gas 148 = .ok (.aload_n 0, 1) := by decide +kernel
theorem dX12_gas_149 : decode cX12_gas 149 = .ok (.getfield 46, 3) := by decide +kernel
theorem dX12_gas_152 : decode cX12_gas 152 = .ok (.iload 6, 2) := by decide +kernel
theorem dX12_gas_154 : decode cX12_gas 154 = .ok (.iaload, 1) := by decide +kernel
theorem dX12_gas_155 : decode cX12_gas 155 = .ok (.ireturn, 1) := by decide +kernel
theorem dX12_gives_0 : decode cX12_gives 0 = .ok (.iload_n 1, 1) := by decide +kernel
theorem dX12_gives_1 : decode cX12_gives 1 = .ok (.i2l, 1) := by decide +kernel
theorem dX12_gives_2 : decode cX12_gives 2 = .ok (.lconst 0, 1) := by decide +kernel
theorem dX12_gives_3 : decode cX12_gives 3 = .ok (.ldc2_w 220, 3) := by decide +kernel
theorem dX12_gives_6 : decode cX12_gives 6 = .ok (.invokestatic 222, 3) := by decide +kernel
theorem dX12_gives_9 : decode cX12_gives 9 = .ok (.ifCond .eq 15, 3) := by decide +kernel
theorem dX12_gives_12 : decode cX12_gives 12 = .ok (.iload_n 2, 1) := by decide +kernel
theorem dX12_gives_13 : decode cX12_gives 13 = .ok (.i2l, 1) := by decide +kernel
theorem dX12_gives_14 : decode cX12_gives 14 = .ok (.lconst 0, 1) := by decide +kernel
theorem dX12_gives_15 : decode cX12_gives 15 = .ok (.ldc2_w 242, 3) := by decide +kernel
theorem dX12_gives_18 : decode cX12_gives 18 = .ok (.invokestatic 222, 3) := by decide +kernel
theorem dX12_gives_21 : decode cX12_gives 21 = .ok (.ifCond .ne 9, 3) := by decide +kernel
theorem dX12_gives_24 : decode cX12_gives 24 = .ok (.aload_n 0, 1) := by decide +kernel
theorem dX12_gives_25 : decode cX12_gives 25 = .ok (.iconst (-1), 1) := by decide +kernel
theorem dX12_gives_26 : decode cX12_gives 26 = .ok (.invokevirtual 226, 3) := by decide +kernel
theorem dX12_gives_29 : decode cX12_gives 29 = .ok (.ireturn, 1) := by decide +kernel
theorem dX12_gives_30 : decode cX12_gives 30 = .ok (.iload_n 3, 1) := by decide +kernel
theorem dX12_gives_31 : decode cX12_gives 31 = .ok (.i2l, 1) := by decide +kernel
theorem dX12_gives_32 : decode cX12_gives 32 = .ok (.lconst 0, 1) := by decide +kernel
theorem dX12_gives_33 : decode cX12_gives 33 = .ok (.ldc2_w 250, 3) := by decide +kernel
theorem dX12_gives_36 : decode cX12_gives 36 = .ok (.invokestatic 232, 3) := by decide +kernel
theorem dX12_gives_39 : decode cX12_gives 39 = .ok (.istore 4, 2) := by decide +kernel
theorem dX12_gives_41 : decode cX12_gives 41 = .ok (.iload 4, 2) := by decide +kernel
theorem dX12_gives_43 : decode cX12_gives 43 = .ok (.ifCond .eq 10, 3) := by decide +kernel
theorem dX12_gives_46 : decode cX12_gives 46 = .ok (.aload_n 0, 1) := by decide +kernel
theorem dX12_gives_47 : decode cX12_gives 47 = .ok (.iload 4, 2) := by decide +kernel
theorem dX12_gives_49 : decode cX12_gives 49 = .ok (.invokevirtual 226, 3) := by decide +kernel
theorem dX12_gives_52 : decode cX12_gives 52 = .ok (.ireturn, 1) := by decide +kernel
theorem dX12_gives_53 : decode cX12_gives 53 = .ok (.aload_n 0, 1) := by decide +kernel
theorem dX12_gives_54 : decode cX12_gives 54 = .ok (.invokevirtual 235, 3) := by decide +kernel
theorem dX12_gives_57 : decode cX12_gives 57 = .ok (.aload_n 0, 1) := by decide +kernel
theorem dX12_gives_58 : decode cX12_gives 58 = .ok (.getfield 22, 3) := by decide +kernel
theorem dX12_gives_61 : decode cX12_gives 61 = .ok (.bipush 10, 2) := by decide +kernel
theorem dX12_gives_63 : decode cX12_gives 63 = .ok (.iload_n 1, 1) := by decide +kernel
theorem dX12_gives_64 : decode cX12_gives 64 = .ok (.imul, 1) := by decide +kernel
theorem dX12_gives_65 : decode cX12_gives 65 = .ok (.iload_n 2, 1) := by decide +kernel
theorem dX12_gives_66 : decode cX12_gives 66 = .ok (.iadd, 1) := by decide +kernel
theorem dX12_gives_67 : decode cX12_gives 67 = .ok (.iaload, 1) := by decide +kernel
theorem dX12_gives_68 : decode cX12_gives 68 = .ok (.istore 5, 2) := by decide +kernel
theorem dX12_gives_70 : decode cX12_gives 70 = .ok (.aload_n 0, 1) := by decide +kernel
theorem dX12_gives_71 : decode cX12_gives 71 = .ok (.getfield 22, 3) := by decide +kernel
theorem dX12_gives_74 : decode cX12_gives 74 = .ok (.bipush 10, 2) := by decide +kernel
theorem dX12_gives_76 : decode cX12_gives 76 = .ok (.iload_n 1, 1) := by decide +kernel
theorem dX12_gives_77 : decode cX12_gives 77 = .ok (.imul, 1) := by decide +kernel
theorem dX12_gives_78 : decode cX12_gives 78 = .ok (.iload_n 2, 1) := by decide +kernel
theorem dX12_gives_79 : decode cX12_gives 79 = .ok (.iadd, 1) := by decide +kernel
theorem dX12_gives_80 : decode cX12_gives 80 = .ok (.iload_n 3, 1) := by decide +kernel
theorem dX12_gives_81 : decode cX12_gives 81 = .ok (.iastore, 1) := by decide +kernel
theorem dX12_gives_82 : decode cX12_gives 82 = .ok (.iload 5, 2) := by decide +kernel
theorem dX12_gives_84 : decode cX12_gives 84 = .ok (.ireturn, 1) := by decide +kernel
theorem dX12_pipe_0 : decode cX12_pipe 0 = .ok (.aload_n 0, 1) := by decide +kernel
theorem dX12_pipe_1 : decode cX12_pipe 1 = .ok (.iload_n 1, 1) := by decide +kernel
theorem dX12_pipe_2 : decode cX12_pipe 2 = .ok (.invokevirtual 238, 3) := by decide +kernel
theorem dX12_pipe_5 : decode cX12_pipe 5 = .ok (.ifCond .eq 16, 3) := by decide +kernel
theorem dX12_pipe_8 : decode cX12_pipe 8 = .ok (.aload_n 0, 1) := by decide +kernel
theorem dX12_pipe_9 : decode cX12_pipe 9 = .ok (.iload_n 2, 1) := by decide +kernel
theorem dX12_pipe_10 : decode cX12_pipe 10 = .ok (.invokevirtual 238, 3) := by decide +kernel
theorem dX12_pipe_13 : decode cX12_pipe 13 = .ok (.ifCond .eq 8, 3) := by decide +kernel
theorem dX12_pipe_16 : decode cX12_pipe 16 = .ok (.iload_n 1, 1) := by decide +kernel
theorem dX12_pipe_17 : decode cX12_pipe 17 = .ok (.iload_n 2, 1) := by decide +kernel
theorem dX12_pipe_18 : decode cX12_pipe 18 = .ok (.if_icmp .ne 9, 3) := by decide +kernel
theorem dX12_pipe_21 : decode cX12_pipe 21 = .ok (.aload_n 0, 1) := by decide +kernel
theorem dX12_pipe_22 : decode cX12_pipe 22 = .ok (.iconst (-1), 1) := by decide +kernel
theorem dX12_pipe_23 : decode cX12_pipe 23 = .ok (.invokevirtual 226, 3) := by decide +kernel
theorem dX12_pipe_26 : decode cX12_pipe 26 = .ok (.ireturn, 1) := by decide +kernel
theorem dX12_pipe_27 : decode cX12_pipe 27 = .ok (.iload_n 3, 1) := by decide +kernel
theorem dX12_pipe_28 : decode cX12_pipe 28 = .ok (.i2l, 1) := by decide +kernel
theorem dX12_pipe_29 : decode cX12_pipe 29 = .ok (.lconst 1, 1) := by decide +kernel
theorem dX12_pipe_30 : decode cX12_pipe 30 = .ok (.ldc2_w 242, 3) := by decide +kernel
theorem dX12_pipe_33 : decode cX12_pipe 33 = .ok (.invokestatic 232, 3) := by decide +kernel
theorem dX12_pipe_36 : decode cX12_pipe 36 = .ok (.istore 4, 2) := by decide +kernel
theorem dX12_pipe_38 : decode cX12_pipe 38 = .ok (.iload 4, 2) := by decide +kernel
theorem dX12_pipe_40 : decode cX12_pipe 40 = .ok (.ifCond .ne 16, 3) := by decide +kernel
theorem dX12_pipe_43 : decode cX12_pipe 43 = .ok (.aload_n 0, 1) := by decide +kernel
theorem dX12_pipe_44 : decode cX12_pipe 44 = .ok (.getfield 214, 3) := by decide +kernel
theorem dX12_pipe_47 : decode cX12_pipe 47 = .ok (.bipush 12, 2) := by decide +kernel
theorem dX12_pipe_49 : decode cX12_pipe 49 = .ok (.if_icmp .ne 7, 3) := by decide +kernel
theorem dX12_pipe_52 : decode cX12_pipe 52 = .ok (.bipush (-6), 2) := by decide +kernel
theorem dX12_pipe_54 : decode cX12_pipe 54 = .ok (.istore 4, 2) := by decide +kernel
theorem dX12_pipe_56 : decode cX12_pipe 56 = .ok (.iload 4, 2) := by decide +kernel
theorem dX12_pipe_58 : decode cX12_pipe 58 = .ok (.ifCond .eq 10, 3) := by decide +kernel
theorem dX12_pipe_61 : decode cX12_pipe 61 = .ok (.aload_n 0, 1) := by decide +kernel
theorem dX12_pipe_62 : decode cX12_pipe 62 = .ok (.iload 4, 2) := by decide +kernel
theorem dX12_pipe_64 : decode cX12_pipe 64 = .ok (.invokevirtual 226, 3) := by decide +kernel
theorem dX12_pipe_67 : decode cX12_pipe 67 = .ok (.ireturn, 1) := by decide +kernel
theorem dX12_pipe_68 : decode cX12_pipe 68 = .ok (.aload_n 0, 1) := by decide +kernel
theorem dX12_pipe_69 : decode cX12_pipe 69 = .ok (.invokevirtual 235, 3) := by decide +kernel
theorem dX12_pipe_72 : decode cX12_pipe 72 = .ok (.aload_n 0, 1) := by decide +kernel
theorem dX12_pipe_73 : decode cX12_pipe 73 = .ok (.getfield 25, 3) := by decide +kernel
theorem dX12_pipe_76 : decode cX12_pipe 76 = .ok (.aload_n 0, 1) := by decide +kernel
theorem dX12_pipe_77 : decode cX12_pipe 77 = .ok (.getfield 214, 3) := by decide +kernel
theorem dX12_pipe_80 : decode cX12_pipe 80 = .ok (.iload_n 1, 1) := by decide +kernel
theorem dX12_pipe_81 : decode cX12_pipe 81 = .ok (.iastore, 1) := by decide +kernel
theorem dX12_pipe_82 : decode cX12_pipe 82 = .ok (.aload_n 0, 1) := by decide +kernel
theorem dX12_pipe_83 : decode cX12_pipe 83 = .ok (.getfield 28, 3) := by decide +kernel
theorem dX12_pipe_86 : decode cX12_pipe 86 = .ok (.aload_n 0, 1) := by decide +kernel
theorem dX12_pipe_87 : decode cX12_pipe 87 = .ok (.getfield 214, 3) := by decide +kernel
theorem dX12_pipe_90 : decode cX12_pipe 90 = .ok (.iload_n 2, 1) := by decide +kernel
theorem dX12_pipe_91 : decode cX12_pipe 91 = .ok (.iastore, 1) := by decide +kernel
theorem dX12_pipe_92 : decode cX12_pipe 92 = .ok (.aload_n 0, 1) := by decide +kernel
theorem dX12_pipe_93 : decode cX12_pipe 93 = .ok (.getfield 31, 3) := by decide +kernel
theorem dX12_pipe_96 : decode cX12_pipe 96 = .ok (.aload_n 0, 1) := by decide +kernel
theorem dX12_pipe_97 : decode cX12_pipe 97 = .ok (.getfield 214, 3) := by decide +kernel
theorem dX12_pipe_100 : decode cX12_pipe 100 = .ok (.iload_n 3, 1) := by decide +kernel
theorem dX12_pipe_101 : decode cX12_pipe 101 = .ok (.iastore, 1) := by decide +kernel
theorem dX12_pipe_102 : decode cX12_pipe 102 = .ok (.aload_n 0, 1) := by decide +kernel
theorem dX12_pipe_103 : decode cX12_pipe 103 = .ok (.dup, 1) := by decide +kernel
theorem dX12_pipe_104 : decode cX12_pipe 104 = .ok (.getfield 214, 3) := by decide +kernel
theorem dX12_pipe_107 : decode cX12_pipe 107 = .ok (.iconst 1, 1) := by decide +kernel
theorem dX12_pipe_108 : decode cX12_pipe 108 = .ok (.iadd, 1) := by decide +kernel
theorem dX12_pipe_109 : decode cX12_pipe 109 = .ok (.putfield 214, 3) := by decide +kernel
theorem dX12_pipe_112 : decode cX12_pipe 112 = .ok (.aload_n 0, 1) := by decide +kernel
theorem dX12_pipe_113 : decode cX12_pipe 113 = .ok (.getfield 214, 3) := by decide +kernel
theorem dX12_pipe_116 : decode cX12_pipe 116 = .ok (.iconst 1, 1) := by decide +kernel
theorem dX12_pipe_117 : decode cX12_pipe 117 = .ok (.isub, 1) := by decide +kernel
theorem dX12_pipe_118 : decode cX12_pipe 118 = .ok (.ireturn, 1) := by decide +kernel
theorem dX12_pump_0 : decode cX12_pump 0 = .ok (.aload_n 0, 1) := by decide +kernel
theorem dX12_pump_1 : decode cX12_pump 1 = .ok (.iload_n 1, 1) := by decide +kernel
theorem dX12_pump_2 : decode cX12_pump 2 = .ok (.invokevirtual 238, 3) := by decide +kernel
theorem dX12_pump_5 : decode cX12_pump 5 = .ok (.ifCond .ne 9, 3) := by decide +kernel
theorem dX12_pump_8 : decode cX12_pump 8 = .ok (.aload_n 0, 1) := by decide +kernel
theorem dX12_pump_9 : decode cX12_pump 9 = .ok (.iconst (-1), 1) := by decide +kernel
theorem dX12_pump_10 : decode cX12_pump 10 = .ok (.invokevirtual 226, 3) := by decide +kernel
theorem dX12_pump_13 : decode cX12_pump 13 = .ok (.ireturn, 1) := by decide +kernel
theorem dX12_pump_14 : decode cX12_pump 14 = .ok (.iload_n 2, 1) := by decide +kernel
theorem dX12_pump_15 : decode cX12_pump 15 = .ok (.ifCond .lt 17, 3) := by decide +kernel
theorem dX12_pump_18 : decode cX12_pump 18 = .ok (.iload_n 3, 1) := by decide +kernel
theorem dX12_pump_19 : decode cX12_pump 19 = .ok (.ifCond .lt 13, 3) := by decide +kernel
theorem dX12_pump_22 : decode cX12_pump 22 = .ok (.iload 4, 2) := by decide +kernel
theorem dX12_pump_24 : decode cX12_pump 24 = .ok (.ifCond .lt 8, 3) := by decide +kernel
theorem dX12_pump_27 : decode cX12_pump 27 = .ok (.iload 5, 2) := by decide +kernel
theorem dX12_pump_29 : decode cX12_pump 29 = .ok (.ifCond .ge 8, 3) := by decide +kernel
theorem dX12_pump_32 : decode cX12_pump 32 = .ok (.bipush (-4), 2) := by decide +kernel
theorem dX12_pump_34 : decode cX12_pump 34 = .ok (.goto 44, 3) := by decide +kernel
theorem dX12_pump_37 : decode cX12_pump 37 = .ok (.iload_n 2, 1) := by decide +kernel
theorem dX12_pump_38 : decode cX12_pump 38 = .ok (.bipush 9, 2) := by decide +kernel
theorem dX12_pump_40 : decode cX12_pump 40 = .ok (.if_icmp .gt 32, 3) := by decide +kernel
theorem dX12_pump_43 : decode cX12_pump 43 = .ok (.iload_n 3, 1) := by decide +kernel
theorem dX12_pump_44 : decode cX12_pump 44 = .ok (.bipush 9, 2) := by decide +kernel
theorem dX12_pump_46 : decode cX12_pump 46 = .ok (.if_icmp .gt 26, 3) := by decide +kernel
theorem dX12_pump_49 : decode cX12_pump 49 = .ok (.iload 4, 2) := by decide +kernel
theorem dX12_pump_51 : decode cX12_pump 51 = .ok (.bipush 9, 2) := by decide +kernel
theorem dX12_pump_53 : decode cX12_pump 53 = .ok (.if_icmp .gt 19, 3) := by decide +kernel
theorem dX12_pump_56 : decode cX12_pump 56 = .ok (.iload 5, 2) := by decide +kernel
theorem dX12_pump_58 : decode cX12_pump 58 = .ok (.ldc 252, 2) := by decide +kernel
theorem dX12_pump_60 : decode cX12_pump 60 = .ok (.if_icmp .gt 12, 3) := by decide +kernel
theorem dX12_pump_63 : decode cX12_pump 63 = .ok (.aload_n 0, 1) := by decide +kernel
theorem dX12_pump_64 : decode cX12_pump 64 = .ok (.getfield 217, 3) := by decide +kernel
theorem dX12_pump_67 : decode cX12_pump 67 = .ok (.bipush 8, 2) := by decide +kernel
theorem dX12_pump_69 : decode cX12_pump 69 = .ok (.if_icmp .ne 8, 3) := by decide +kernel
theorem dX12_pump_72 : decode cX12_pump 72 = .ok (.bipush (-6), 2) := by decide +kernel
theorem dX12_pump_74 : decode cX12_pump 74 = .ok (.goto 4, 3) := by decide +kernel
theorem dX12_pump_77 : decode cX12_pump 77 = .ok (.iconst 0, 1) := by decide +kernel
theorem dX12_pump_78 : decode cX12_pump 78 = .ok (.istore 6, 2) := by decide +kernel
theorem dX12_pump_80 : decode cX12_pump 80 = .ok (.iload 6, 2) := by decide +kernel
theorem dX12_pump_82 : decode cX12_pump 82 = .ok (.ifCond .eq 10, 3) := by decide +kernel
theorem dX12_pump_85 : decode cX12_pump 85 = .ok (.aload_n 0, 1) := by decide +kernel
theorem dX12_pump_86 : decode cX12_pump 86 = .ok (.iload 6, 2) := by decide +kernel
theorem dX12_pump_88 : decode cX12_pump 88 = .ok (.invokevirtual 226, 3) := by decide +kernel
theorem dX12_pump_91 : decode cX12_pump 91 = .ok (.ireturn, 1) := by decide +kernel
theorem dX12_pump_92 : decode cX12_pump 92 = .ok (.aload_n 0, 1) := by decide +kernel
theorem dX12_pump_93 : decode cX12_pump 93 = .ok (.invokevirtual 235, 3) := by decide +kernel
theorem dX12_pump_96 : decode cX12_pump 96 = .ok (.aload_n 0, 1) := by decide +kernel
theorem dX12_pump_97 : decode cX12_pump 97 = .ok (.getfield 34, 3) := by decide +kernel
theorem dX12_pump_100 : decode cX12_pump 100 = .ok (.aload_n 0, 1) := by decide +kernel
theorem dX12_pump_101 : decode cX12_pump 101 = .ok (.getfield 217, 3) := by decide +kernel
theorem dX12_pump_104 : decode cX12_pump 104 = .ok (.iload_n 1, 1) := by decide +kernel
theorem dX12_pump_105 : decode cX12_pump 105 = .ok (.iastore, 1) := by decide +kernel
theorem dX12_pump_106 : decode cX12_pump 106 = .ok (.aload_n 0, 1) := by decide +kernel
theorem dX12_pump_107 : decode cX12_pump 107 = .ok (.getfield 37, 3) := by decide +kernel
theorem dX12_pump_110 : decode cX12_pump 110 = .ok (.iconst 3, 1) := by decide +kernel
theorem dX12_pump_111 : decode cX12_pump 111 = .ok (.aload_n 0, 1) := by decide +kernel
theorem dX12_pump_112 : decode cX12_pump 112 = .ok (.getfield 217, 3) := by decide +kernel
theorem dX12_pump_115 : decode cX12_pump 115 = .ok (.imul, 1) := by decide +kernel
theorem dX12_pump_116 : decode cX12_pump 116 = .ok (.iload_n 2, 1) := by decide +kernel
theorem dX12_pump_117 : decode cX12_pump 117 = .ok (.iastore, 1) := by decide +kernel
theorem dX12_pump_118 : decode cX12_pump 118 = .ok (.aload_n 0, 1) := by decide +kernel
theorem dX12_pump_119 : decode cX12_pump 119 = .ok (.getfield 37, 3) := by decide +kernel
theorem dX12_pump_122 : decode cX12_pump 122 = .ok (.iconst 3, 1) := by decide +kernel
theorem dX12_pump_123 : decode cX12_pump 123 = .ok (.aload_n 0, 1) := by decide +kernel
theorem dX12_pump_124 : decode cX12_pump 124 = .ok (.getfield 217, 3) := by decide +kernel
theorem dX12_pump_127 : decode cX12_pump 127 = .ok (.imul, 1) := by decide +kernel
theorem dX12_pump_128 : decode cX12_pump 128 = .ok (.iconst 1, 1) := by decide +kernel
theorem dX12_pump_129 : decode cX12_pump 129 = .ok (.iadd, 1) := by decide +kernel
theorem dX12_pump_130 : decode cX12_pump 130 = .ok (.iload_n 3, 1) := by decide +kernel
theorem dX12_pump_131 : decode cX12_pump 131 = .ok (.iastore, 1) := by decide +kernel
theorem dX12_pump_132 : decode cX12_pump 132 = .ok (.aload_n 0, 1) := by decide +kernel
theorem dX12_pump_133 : decode cX12_pump 133 = .ok (.getfield 37, 3) := by decide +kernel
theorem dX12_pump_136 : decode cX12_pump 136 = .ok (.iconst 3, 1) := by decide +kernel
theorem dX12_pump_137 : decode cX12_pump 137 = .ok (.aload_n 0, 1) := by decide +kernel
theorem dX12_pump_138 : decode cX12_pump 138 = .ok (.getfield 217, 3) := by decide +kernel
theorem dX12_pump_141 : decode cX12_pump 141 = .ok (.imul, 1) := by decide +kernel
theorem dX12_pump_142 : decode cX12_pump 142 = .ok (.iconst 2, 1) := by decide +kernel
theorem dX12_pump_143 : decode cX12_pump 143 = .ok (.iadd, 1) := by decide +kernel
theorem dX12_pump_144 : decode cX12_pump 144 = .ok (.iload 4, 2) := by decide +kernel
theorem dX12_pump_146 : decode cX12_pump 146 = .ok (.iastore, 1) := by decide +kernel
theorem dX12_pump_147 : decode cX12_pump 147 = .ok (.aload_n 0, 1) := by decide +kernel
theorem dX12_pump_148 : decode cX12_pump 148 = .ok (.getfield 40, 3) := by decide +kernel
theorem dX12_pump_151 : decode cX12_pump 151 = .ok (.aload_n 0, 1) := by decide +kernel
theorem dX12_pump_152 : decode cX12_pump 152 = .ok (.getfield 217, 3) := by decide +kernel
theorem dX12_pump_155 : decode cX12_pump 155 = .ok (.iload 5, 2) := by decide +kernel
theorem dX12_pump_157 : decode cX12_pump 157 = .ok (.iastore, 1) := by decide +kernel
theorem dX12_pump_158 : decode cX12_pump 158 = .ok (.aload_n 0, 1) := by decide +kernel
theorem dX12_pump_159 : decode cX12_pump 159 = .ok (.dup, 1) := by decide +kernel
theorem dX12_pump_160 : decode cX12_pump 160 = .ok (.getfield 217, 3) := by decide +kernel
theorem dX12_pump_163 : decode cX12_pump 163 = .ok (.iconst 1, 1) := by decide +kernel
theorem dX12_pump_164 : decode cX12_pump 164 = .ok (.iadd, 1) := by decide +kernel
theorem dX12_pump_165 : decode cX12_pump 165 = .ok (.putfield 217, 3) := by decide +kernel
theorem dX12_pump_168 : decode cX12_pump 168 = .ok (.aload_n 0, 1) := by decide +kernel
theorem dX12_pump_169 : decode cX12_pump 169 = .ok (.getfield 217, 3) := by decide +kernel
theorem dX12_pump_172 : decode cX12_pump 172 = .ok (.iconst 1, 1) := by decide +kernel
theorem dX12_pump_173 : decode cX12_pump 173 = .ok (.isub, 1) := by decide +kernel
theorem dX12_pump_174 : decode cX12_pump 174 = .ok (.ireturn, 1) := by decide +kernel
theorem dX12_leak_0 : decode cX12_leak 0 = .ok (.aload_n 0, 1) := by decide +kernel
theorem dX12_leak_1 : decode cX12_leak 1 = .ok (.iload_n 1, 1) := by decide +kernel
theorem dX12_leak_2 : decode cX12_leak 2 = .ok (.invokevirtual 238, 3) := by decide +kernel
theorem dX12_leak_5 : decode cX12_leak 5 = .ok (.ifCond .eq 10, 3) := by decide +kernel
theorem dX12_leak_8 : decode cX12_leak 8 = .ok (.iload_n 2, 1) := by decide +kernel
theorem dX12_leak_9 : decode cX12_leak 9 = .ok (.invokestatic 244, 3) := by decide +kernel
theorem dX12_leak_12 : decode cX12_leak 12 = .ok (.ifCond .ne 9, 3) := by decide +kernel
theorem dX12_leak_15 : decode cX12_leak 15 = .ok (.aload_n 0, 1) := by decide +kernel
theorem dX12_leak_16 : decode cX12_leak 16 = .ok (.iconst (-1), 1) := by decide +kernel
theorem dX12_leak_17 : decode cX12_leak 17 = .ok (.invokevirtual 226, 3) := by decide +kernel
theorem dX12_leak_20 : decode cX12_leak 20 = .ok (.ireturn, 1) := by decide +kernel
theorem dX12_leak_21 : decode cX12_leak 21 = .ok (.iload_n 3, 1) := by decide +kernel
theorem dX12_leak_22 : decode cX12_leak 22 = .ok (.i2l, 1) := by decide +kernel
theorem dX12_leak_23 : decode cX12_leak 23 = .ok (.lconst 0, 1) := by decide +kernel
theorem dX12_leak_24 : decode cX12_leak 24 = .ok (.ldc2_w 253, 3) := by decide +kernel
theorem dX12_leak_27 : decode cX12_leak 27 = .ok (.invokestatic 232, 3) := by decide +kernel
theorem dX12_leak_30 : decode cX12_leak 30 = .ok (.istore 4, 2) := by decide +kernel
theorem dX12_leak_32 : decode cX12_leak 32 = .ok (.iload 4, 2) := by decide +kernel
theorem dX12_leak_34 : decode cX12_leak 34 = .ok (.ifCond .eq 10, 3) := by decide +kernel
theorem dX12_leak_37 : decode cX12_leak 37 = .ok (.aload_n 0, 1) := by decide +kernel
theorem dX12_leak_38 : decode cX12_leak 38 = .ok (.iload 4, 2) := by decide +kernel
theorem dX12_leak_40 : decode cX12_leak 40 = .ok (.invokevirtual 226, 3) := by decide +kernel
theorem dX12_leak_43 : decode cX12_leak 43 = .ok (.ireturn, 1) := by decide +kernel
theorem dX12_leak_44 : decode cX12_leak 44 = .ok (.aload_n 0, 1) := by decide +kernel
theorem dX12_leak_45 : decode cX12_leak 45 = .ok (.invokevirtual 235, 3) := by decide +kernel
theorem dX12_leak_48 : decode cX12_leak 48 = .ok (.aload_n 0, 1) := by decide +kernel
theorem dX12_leak_49 : decode cX12_leak 49 = .ok (.getfield 43, 3) := by decide +kernel
theorem dX12_leak_52 : decode cX12_leak 52 = .ok (.iconst 3, 1) := by decide +kernel
theorem dX12_leak_53 : decode cX12_leak 53 = .ok (.iload_n 1, 1) := by decide +kernel
theorem dX12_leak_54 : decode cX12_leak 54 = .ok (.imul, 1) := by decide +kernel
theorem dX12_leak_55 : decode cX12_leak 55 = .ok (.iload_n 2, 1) := by decide +kernel
theorem dX12_leak_56 : decode cX12_leak 56 = .ok (.iadd, 1) := by decide +kernel
theorem dX12_leak_57 : decode cX12_leak 57 = .ok (.iaload, 1) := by decide +kernel
theorem dX12_leak_58 : decode cX12_leak 58 = .ok (.istore 5, 2) := by decide +kernel
theorem dX12_leak_60 : decode cX12_leak 60 = .ok (.aload_n 0, 1) := by decide +kernel
theorem dX12_leak_61 : decode cX12_leak 61 = .ok (.getfield 43, 3) := by decide +kernel
theorem dX12_leak_64 : decode cX12_leak 64 = .ok (.iconst 3, 1) := by decide +kernel
theorem dX12_leak_65 : decode cX12_leak 65 = .ok (.iload_n 1, 1) := by decide +kernel
theorem dX12_leak_66 : decode cX12_leak 66 = .ok (.imul, 1) := by decide +kernel
theorem dX12_leak_67 : decode cX12_leak 67 = .ok (.iload_n 2, 1) := by decide +kernel
theorem dX12_leak_68 : decode cX12_leak 68 = .ok (.iadd, 1) := by decide +kernel
theorem dX12_leak_69 : decode cX12_leak 69 = .ok (.iload_n 3, 1) := by decide +kernel
theorem dX12_leak_70 : decode cX12_leak 70 = .ok (.iastore, 1) := by decide +kernel
theorem dX12_leak_71 : decode cX12_leak 71 = .ok (.iload 5, 2) := by decide +kernel
theorem dX12_leak_73 : decode cX12_leak 73 = .ok (.ireturn, 1) := by decide +kernel
theorem dX12_share_0 : decode cX12_share 0 = .ok (.aload_n 0, 1) := by decide +kernel
theorem dX12_share_1 : decode cX12_share 1 = .ok (.getfield 46, 3) := by decide +kernel
theorem dX12_share_4 : decode cX12_share 4 = .ok (.iload_n 1, 1) := by decide +kernel
theorem dX12_share_5 : decode cX12_share 5 = .ok (.iaload, 1) := by decide +kernel
theorem dX12_share_6 : decode cX12_share 6 = .ok (.i2l, 1) := by decide +kernel
theorem dX12_share_7 : decode cX12_share 7 = .ok (.iload_n 2, 1) := by decide +kernel
theorem dX12_share_8 : decode cX12_share 8 = .ok (.i2l, 1) := by decide +kernel
theorem dX12_share_9 : decode cX12_share 9 = .ok (.lmul, 1) := by decide +kernel
theorem dX12_share_10 : decode cX12_share 10 = .ok (.ldc2_w 255, 3) := by decide +kernel
theorem dX12_share_13 : decode cX12_share 13 = .ok (.aload_n 0, 1) := by decide +kernel
theorem dX12_share_14 : decode cX12_share 14 = .ok (.getfield 13, 3) := by decide +kernel
theorem dX12_share_17 : decode cX12_share 17 = .ok (.iload_n 1, 1) := by decide +kernel
theorem dX12_share_18 : decode cX12_share 18 = .ok (.iconst 3, 1) := by decide +kernel
theorem dX12_share_19 : decode cX12_share 19 = .ok (.idiv, 1) := by decide +kernel
theorem dX12_share_20 : decode cX12_share 20 = .ok (.iaload, 1) := by decide +kernel
theorem dX12_share_21 : decode cX12_share 21 = .ok (.i2l, 1) := by decide +kernel
theorem dX12_share_22 : decode cX12_share 22 = .ok (.lmul, 1) := by decide +kernel
theorem dX12_share_23 : decode cX12_share 23 = .ok (.ldiv, 1) := by decide +kernel
theorem dX12_share_24 : decode cX12_share 24 = .ok (.l2i, 1) := by decide +kernel
theorem dX12_share_25 : decode cX12_share 25 = .ok (.ireturn, 1) := by decide +kernel
theorem dX12_flows_0 : decode cX12_flows 0 = .ok (.iconst 0, 1) := by decide +kernel
theorem dX12_flows_1 : decode cX12_flows 1 = .ok (.istore_n 1, 1) := by decide +kernel
theorem dX12_flows_2 : decode cX12_flows 2 = .ok (.iload_n 1, 1) := by decide +kernel
theorem dX12_flows_3 : decode cX12_flows 3 = .ok (.aload_n 0, 1) := by decide +kernel
theorem dX12_flows_4 : decode cX12_flows 4 = .ok (.getfield 214, 3) := by decide +kernel
theorem dX12_flows_7 : decode cX12_flows 7 = .ok (.if_icmp .ge 91, 3) := by decide +kernel
theorem dX12_flows_10 : decode cX12_flows 10 = .ok (.iconst 0, 1) := by decide +kernel
theorem dX12_flows_11 : decode cX12_flows 11 = .ok (.istore_n 2, 1) := by decide +kernel
theorem dX12_flows_12 : decode cX12_flows 12 = .ok (.iload_n 2, 1) := by decide +kernel
theorem dX12_flows_13 : decode cX12_flows 13 = .ok (.iconst 3, 1) := by decide +kernel
theorem dX12_flows_14 : decode cX12_flows 14 = .ok (.if_icmp .ge 78, 3) := by decide +kernel
theorem dX12_flows_17 : decode cX12_flows 17 = .ok (.aload_n 0, 1) := by decide +kernel
theorem dX12_flows_18 : decode cX12_flows 18 = .ok (.getfield 61, 3) := by decide +kernel
theorem dX12_flows_21 : decode cX12_flows 21 = .ok (.iload_n 1, 1) := by decide +kernel
theorem dX12_flows_22 : decode cX12_flows 22 = .ok (.baload, 1) := by decide +kernel
theorem dX12_flows_23 : decode cX12_flows 23 = .ok (.ifCond .eq 69, 3) := by decide +kernel
theorem dX12_flows_26 : decode cX12_flows 26 = .ok (.aload_n 0, 1) := by decide +kernel
theorem dX12_flows_27 : decode cX12_flows 27 = .ok (.getfield 71, 3) := by decide +kernel
theorem dX12_flows_30 : decode cX12_flows 30 = .ok (.iconst 3, 1) := by decide +kernel
theorem dX12_flows_31 : decode cX12_flows 31 = .ok (.iload_n 1, 1) := by decide +kernel
theorem dX12_flows_32 : decode cX12_flows 32 = .ok (.imul, 1) := by decide +kernel
theorem dX12_flows_33 : decode cX12_flows 33 = .ok (.iload_n 2, 1) := by decide +kernel
theorem dX12_flows_34 : decode cX12_flows 34 = .ok (.iadd, 1) := by decide +kernel
theorem dX12_flows_35 : decode cX12_flows 35 = .ok (.aload_n 0, 1) := by decide +kernel
theorem dX12_flows_36 : decode cX12_flows 36 = .ok (.iconst 3, 1) := by decide +kernel
theorem dX12_flows_37 : decode cX12_flows 37 = .ok (.aload_n 0, 1) := by decide +kernel
theorem dX12_flows_38 : decode cX12_flows 38 = .ok (.getfield 25, 3) := by decide +kernel
theorem dX12_flows_41 : decode cX12_flows 41 = .ok (.iload_n 1, 1) := by decide +kernel
theorem dX12_flows_42 : decode cX12_flows 42 = .ok (.iaload, 1) := by decide +kernel
theorem dX12_flows_43 : decode cX12_flows 43 = .ok (.imul, 1) := by decide +kernel
theorem dX12_flows_44 : decode cX12_flows 44 = .ok (.iload_n 2, 1) := by decide +kernel
theorem dX12_flows_45 : decode cX12_flows 45 = .ok (.iadd, 1) := by decide +kernel
theorem dX12_flows_46 : decode cX12_flows 46 = .ok (.aload_n 0, 1) := by decide +kernel
theorem dX12_flows_47 : decode cX12_flows 47 = .ok (.getfield 31, 3) := by decide +kernel
theorem dX12_flows_50 : decode cX12_flows 50 = .ok (.iload_n 1, 1) := by decide +kernel
theorem dX12_flows_51 : decode cX12_flows 51 = .ok (.iaload, 1) := by decide +kernel
theorem dX12_flows_52 : decode cX12_flows 52 = .ok (.invokevirtual 257, 3) := by decide +kernel
theorem dX12_flows_55 : decode cX12_flows 55 = .ok (.iastore, 1) := by decide +kernel
theorem dX12_flows_56 : decode cX12_flows 56 = .ok (.aload_n 0, 1) := by decide +kernel
theorem dX12_flows_57 : decode cX12_flows 57 = .ok (.getfield 74, 3) := by decide +kernel
theorem dX12_flows_60 : decode cX12_flows 60 = .ok (.iconst 3, 1) := by decide +kernel
theorem dX12_flows_61 : decode cX12_flows 61 = .ok (.iload_n 1, 1) := by decide +kernel
theorem dX12_flows_62 : decode cX12_flows 62 = .ok (.imul, 1) := by decide +kernel
theorem dX12_flows_63 : decode cX12_flows 63 = .ok (.iload_n 2, 1) := by decide +kernel
theorem dX12_flows_64 : decode cX12_flows 64 = .ok (.iadd, 1) := by decide +kernel
theorem dX12_flows_65 : decode cX12_flows 65 = .ok (.aload_n 0, 1) := by decide +kernel
theorem dX12_flows_66 : decode cX12_flows 66 = .ok (.iconst 3, 1) := by decide +kernel
theorem dX12_flows_67 : decode cX12_flows 67 = .ok (.aload_n 0, 1) := by decide +kernel
theorem dX12_flows_68 : decode cX12_flows 68 = .ok (.getfield 28, 3) := by decide +kernel
theorem dX12_flows_71 : decode cX12_flows 71 = .ok (.iload_n 1, 1) := by decide +kernel
theorem dX12_flows_72 : decode cX12_flows 72 = .ok (.iaload, 1) := by decide +kernel
theorem dX12_flows_73 : decode cX12_flows 73 = .ok (.imul, 1) := by decide +kernel
theorem dX12_flows_74 : decode cX12_flows 74 = .ok (.iload_n 2, 1) := by decide +kernel
theorem dX12_flows_75 : decode cX12_flows 75 = .ok (.iadd, 1) := by decide +kernel
theorem dX12_flows_76 : decode cX12_flows 76 = .ok (.aload_n 0, 1) := by decide +kernel
theorem dX12_flows_77 : decode cX12_flows 77 = .ok (.getfield 31, 3) := by decide +kernel
theorem dX12_flows_80 : decode cX12_flows 80 = .ok (.iload_n 1, 1) := by decide +kernel
theorem dX12_flows_81 : decode cX12_flows 81 = .ok (.iaload, 1) := by decide +kernel
theorem dX12_flows_82 : decode cX12_flows 82 = .ok (.invokevirtual 257, 3) := by decide +kernel
theorem dX12_flows_85 : decode cX12_flows 85 = .ok (.iastore, 1) := by decide +kernel
theorem dX12_flows_86 : decode cX12_flows 86 = .ok (.iinc 2 1, 3) := by decide +kernel
theorem dX12_flows_89 : decode cX12_flows 89 = .ok (.goto (-77), 3) := by decide +kernel
theorem dX12_flows_92 : decode cX12_flows 92 = .ok (.iinc 1 1, 3) := by decide +kernel
theorem dX12_flows_95 : decode cX12_flows 95 = .ok (.goto (-93), 3) := by decide +kernel
theorem dX12_flows_98 : decode cX12_flows 98 = .ok (.iconst 0, 1) := by decide +kernel
theorem dX12_flows_99 : decode cX12_flows 99 = .ok (.istore_n 1, 1) := by decide +kernel
theorem dX12_flows_100 : decode cX12_flows 100 = .ok (.iload_n 1, 1) := by decide +kernel
theorem dX12_flows_101 : decode cX12_flows 101 = .ok (.aload_n 0, 1) := by decide +kernel
theorem dX12_flows_102 : decode cX12_flows 102 = .ok (.getfield 214, 3) := by decide +kernel
theorem dX12_flows_105 : decode cX12_flows 105 = .ok (.if_icmp .ge 99, 3) := by decide +kernel
theorem dX12_flows_108 : decode cX12_flows 108 = .ok (.iconst 0, 1) := by decide +kernel
theorem dX12_flows_109 : decode cX12_flows 109 = .ok (.istore_n 2, 1) := by decide +kernel
theorem dX12_flows_110 : decode cX12_flows 110 = .ok (.iload_n 2, 1) := by decide +kernel
theorem dX12_flows_111 : decode cX12_flows 111 = .ok (.iconst 3, 1) := by decide +kernel
theorem dX12_flows_112 : decode cX12_flows 112 = .ok (.if_icmp .ge 86, 3) := by decide +kernel
theorem dX12_flows_115 : decode cX12_flows 115 = .ok (.aload_n 0, 1) := by decide +kernel
theorem dX12_flows_116 : decode cX12_flows 116 = .ok (.getfield 61, 3) := by decide +kernel
theorem dX12_flows_119 : decode cX12_flows 119 = .ok (.iload_n 1, 1) := by decide +kernel
theorem dX12_flows_120 : decode cX12_flows 120 = .ok (.baload, 1) := by decide +kernel
theorem dX12_flows_121 : decode cX12_flows 121 = .ok (.ifCond .eq 77, 3) := by decide +kernel
theorem dX12_flows_124 : decode cX12_flows 124 = .ok (.aload_n 0, 1) := by decide +kernel
theorem dX12_flows_125 : decode cX12_flows 125 = .ok (.iconst 3, 1) := by decide +kernel
theorem dX12_flows_126 : decode cX12_flows 126 = .ok (.aload_n 0, 1) := by decide +kernel
theorem dX12_flows_127 : decode cX12_flows 127 = .ok (.getfield 25, 3) := by decide +kernel
theorem dX12_flows_130 : decode cX12_flows 130 = .ok (.iload_n 1, 1) := by decide +kernel
theorem dX12_flows_131 : decode cX12_flows 131 = .ok (.iaload, 1) := by decide +kernel
theorem dX12_flows_132 : decode cX12_flows 132 = .ok (.imul, 1) := by decide +kernel
theorem dX12_flows_133 : decode cX12_flows 133 = .ok (.iload_n 2, 1) := by decide +kernel
theorem dX12_flows_134 : decode cX12_flows 134 = .ok (.iadd, 1) := by decide +kernel
theorem dX12_flows_135 : decode cX12_flows 135 = .ok (.iconst 3, 1) := by decide +kernel
theorem dX12_flows_136 : decode cX12_flows 136 = .ok (.aload_n 0, 1) := by decide +kernel
theorem dX12_flows_137 : decode cX12_flows 137 = .ok (.getfield 28, 3) := by decide +kernel
theorem dX12_flows_140 : decode cX12_flows 140 = .ok (.iload_n 1, 1) := by decide +kernel
theorem dX12_flows_141 : decode cX12_flows 141 = .ok (.iaload, 1) := by decide +kernel
theorem dX12_flows_142 : decode cX12_flows 142 = .ok (.imul, 1) := by decide +kernel
theorem dX12_flows_143 : decode cX12_flows 143 = .ok (.iload_n 2, 1) := by decide +kernel
theorem dX12_flows_144 : decode cX12_flows 144 = .ok (.iadd, 1) := by decide +kernel
theorem dX12_flows_145 : decode cX12_flows 145 = .ok (.aload_n 0, 1) := by decide +kernel
theorem dX12_flows_146 : decode cX12_flows 146 = .ok (.getfield 71, 3) := by decide +kernel
theorem dX12_flows_149 : decode cX12_flows 149 = .ok (.iconst 3, 1) := by decide +kernel
theorem dX12_flows_150 : decode cX12_flows 150 = .ok (.iload_n 1, 1) := by decide +kernel
theorem dX12_flows_151 : decode cX12_flows 151 = .ok (.imul, 1) := by decide +kernel
theorem dX12_flows_152 : decode cX12_flows 152 = .ok (.iload_n 2, 1) := by decide +kernel
theorem dX12_flows_153 : decode cX12_flows 153 = .ok (.iadd, 1) := by decide +kernel
theorem dX12_flows_154 : decode cX12_flows 154 = .ok (.iaload, 1) := by decide +kernel
theorem dX12_flows_155 : decode cX12_flows 155 = .ok (.invokevirtual 261, 3) := by decide +kernel
theorem dX12_flows_158 : decode cX12_flows 158 = .ok (.aload_n 0, 1) := by decide +kernel
theorem dX12_flows_159 : decode cX12_flows 159 = .ok (.iconst 3, 1) := by decide +kernel
theorem dX12_flows_160 : decode cX12_flows 160 = .ok (.aload_n 0, 1) := by decide +kernel
theorem dX12_flows_161 : decode cX12_flows 161 = .ok (.getfield 28, 3) := by decide +kernel
theorem dX12_flows_164 : decode cX12_flows 164 = .ok (.iload_n 1, 1) := by decide +kernel
theorem dX12_flows_165 : decode cX12_flows 165 = .ok (.iaload, 1) := by decide +kernel
theorem dX12_flows_166 : decode cX12_flows 166 = .ok (.imul, 1) := by decide +kernel
theorem dX12_flows_167 : decode cX12_flows 167 = .ok (.iload_n 2, 1) := by decide +kernel
theorem dX12_flows_168 : decode cX12_flows 168 = .ok (.iadd, 1) := by decide +kernel
theorem dX12_flows_169 : decode cX12_flows 169 = .ok (.iconst 3, 1) := by decide +kernel
theorem dX12_flows_170 : decode cX12_flows 170 = .ok (.aload_n 0, 1) := by decide +kernel
theorem dX12_flows_171 : decode cX12_flows 171 = .ok (.getfield 25, 3) := by decide +kernel
theorem dX12_flows_174 : decode cX12_flows 174 = .ok (.iload_n 1, 1) := by decide +kernel
theorem dX12_flows_175 : decode cX12_flows 175 = .ok (.iaload, 1) := by decide +kernel
theorem dX12_flows_176 : decode cX12_flows 176 = .ok (.imul, 1) := by decide +kernel
theorem dX12_flows_177 : decode cX12_flows 177 = .ok (.iload_n 2, 1) := by decide +kernel
theorem dX12_flows_178 : decode cX12_flows 178 = .ok (.iadd, 1) := by decide +kernel
theorem dX12_flows_179 : decode cX12_flows 179 = .ok (.aload_n 0, 1) := by decide +kernel
theorem dX12_flows_180 : decode cX12_flows 180 = .ok (.getfield 74, 3) := by decide +kernel
theorem dX12_flows_183 : decode cX12_flows 183 = .ok (.iconst 3, 1) := by decide +kernel
theorem dX12_flows_184 : decode cX12_flows 184 = .ok (.iload_n 1, 1) := by decide +kernel
theorem dX12_flows_185 : decode cX12_flows 185 = .ok (.imul, 1) := by decide +kernel
theorem dX12_flows_186 : decode cX12_flows 186 = .ok (.iload_n 2, 1) := by decide +kernel
theorem dX12_flows_187 : decode cX12_flows 187 = .ok (.iadd, 1) := by decide +kernel
theorem dX12_flows_188 : decode cX12_flows 188 = .ok (.iaload, 1) := by decide +kernel
theorem dX12_flows_189 : decode cX12_flows 189 = .ok (.invokevirtual 261, 3) := by decide +kernel
theorem dX12_flows_192 : decode cX12_flows 192 = .ok (.iinc 2 1, 3) := by decide +kernel
theorem dX12_flows_195 : decode cX12_flows 195 = .ok (.goto (-85), 3) := by decide +kernel
theorem dX12_flows_198 : decode cX12_flows 198 = .ok (.iinc 1 1, 3) := by decide +kernel
theorem dX12_flows_201 : decode cX12_flows 201 = .ok (.goto (-101), 3) := by decide +kernel
theorem dX12_flows_204 : decode cX12_flows 204 = .ok (.return_, 1) := by decide +kernel
theorem dX12_moves_0 : decode cX12_moves 0 = .ok (.iload_n 3, 1) := by decide +kernel
theorem dX12_moves_1 : decode cX12_moves 1 = .ok (.aload_n 0, 1) := by decide +kernel
theorem dX12_moves_2 : decode cX12_moves 2 = .ok (.getfield 46, 3) := by decide +kernel
theorem dX12_moves_5 : decode cX12_moves 5 = .ok (.iload_n 1, 1) := by decide +kernel
theorem dX12_moves_6 : decode cX12_moves 6 = .ok (.iaload, 1) := by decide +kernel
theorem dX12_moves_7 : decode cX12_moves 7 = .ok (.if_icmp .ge 7, 3) := by decide +kernel
theorem dX12_moves_10 : decode cX12_moves 10 = .ok (.iload_n 3, 1) := by decide +kernel
theorem dX12_moves_11 : decode cX12_moves 11 = .ok (.goto 9, 3) := by decide +kernel
theorem dX12_moves_14 : decode cX12_moves 14 = .ok (.aload_n 0, 1) := by decide +kernel
theorem dX12_moves_15 : decode cX12_moves 15 = .ok (.getfield 46, 3) := by decide +kernel
theorem dX12_moves_18 : decode cX12_moves 18 = .ok (.iload_n 1, 1) := by decide +kernel
theorem dX12_moves_19 : decode cX12_moves 19 = .ok (.iaload, 1) := by decide +kernel
theorem dX12_moves_20 : decode cX12_moves 20 = .ok (.istore 4, 2) := by decide +kernel
theorem dX12_moves_22 : decode cX12_moves 22 = .ok (.aload_n 0, 1) := by decide +kernel
theorem dX12_moves_23 : decode cX12_moves 23 = .ok (.getfield 46, 3) := by decide +kernel
theorem dX12_moves_26 : decode cX12_moves 26 = .ok (.iload_n 1, 1) := by decide +kernel
theorem dX12_moves_27 : decode cX12_moves 27 = .ok (.dup2, 1) := by decide +kernel
theorem dX12_moves_28 : decode cX12_moves 28 = .ok (.iaload, 1) := by decide +kernel
theorem dX12_moves_29 : decode cX12_moves 29 = .ok (.iload 4, 2) := by decide +kernel
theorem dX12_moves_31 : decode cX12_moves 31 = .ok (.isub, 1) := by decide +kernel
theorem dX12_moves_32 : decode cX12_moves 32 = .ok (.iastore, 1) := by decide +kernel
theorem dX12_moves_33 : decode cX12_moves 33 = .ok (.aload_n 0, 1) := by decide +kernel
theorem dX12_moves_34 : decode cX12_moves 34 = .ok (.getfield 46, 3) := by decide +kernel
theorem dX12_moves_37 : decode cX12_moves 37 = .ok (.iload_n 2, 1) := by decide +kernel
theorem dX12_moves_38 : decode cX12_moves 38 = .ok (.dup2, 1) := by decide +kernel
theorem dX12_moves_39 : decode cX12_moves 39 = .ok (.iaload, 1) := by decide +kernel
theorem dX12_moves_40 : decode cX12_moves 40 = .ok (.iload 4, 2) := by decide +kernel
theorem dX12_moves_42 : decode cX12_moves 42 = .ok (.iadd, 1) := by decide +kernel
theorem dX12_moves_43 : decode cX12_moves 43 = .ok (.iastore, 1) := by decide +kernel
theorem dX12_moves_44 : decode cX12_moves 44 = .ok (.return_, 1) := by decide +kernel
theorem dX12_holds_0 : decode cX12_holds 0 = .ok (.aload_n 0, 1) := by decide +kernel
theorem dX12_holds_1 : decode cX12_holds 1 = .ok (.getfield 52, 3) := by decide +kernel
theorem dX12_holds_4 : decode cX12_holds 4 = .ok (.iconst 3, 1) := by decide +kernel
theorem dX12_holds_5 : decode cX12_holds 5 = .ok (.iload_n 1, 1) := by decide +kernel
theorem dX12_holds_6 : decode cX12_holds 6 = .ok (.imul, 1) := by decide +kernel
theorem dX12_holds_7 : decode cX12_holds 7 = .ok (.iaload, 1) := by decide +kernel
theorem dX12_holds_8 : decode cX12_holds 8 = .ok (.aload_n 0, 1) := by decide +kernel
theorem dX12_holds_9 : decode cX12_holds 9 = .ok (.getfield 52, 3) := by decide +kernel
theorem dX12_holds_12 : decode cX12_holds 12 = .ok (.iconst 3, 1) := by decide +kernel
theorem dX12_holds_13 : decode cX12_holds 13 = .ok (.iload_n 1, 1) := by decide +kernel
theorem dX12_holds_14 : decode cX12_holds 14 = .ok (.imul, 1) := by decide +kernel
theorem dX12_holds_15 : decode cX12_holds 15 = .ok (.iconst 1, 1) := by decide +kernel
theorem dX12_holds_16 : decode cX12_holds 16 = .ok (.iadd, 1) := by decide +kernel
theorem dX12_holds_17 : decode cX12_holds 17 = .ok (.iaload, 1) := by decide +kernel
theorem dX12_holds_18 : decode cX12_holds 18 = .ok (.iadd, 1) := by decide +kernel
theorem dX12_holds_19 : decode cX12_holds 19 = .ok (.aload_n 0, 1) := by decide +kernel
theorem dX12_holds_20 : decode cX12_holds 20 = .ok (.getfield 52, 3) := by decide +kernel
theorem dX12_holds_23 : decode cX12_holds 23 = .ok (.iconst 3, 1) := by decide +kernel
theorem dX12_holds_24 : decode cX12_holds 24 = .ok (.iload_n 1, 1) := by decide +kernel
theorem dX12_holds_25 : decode cX12_holds 25 = .ok (.imul, 1) := by decide +kernel
theorem dX12_holds_26 : decode cX12_holds 26 = .ok (.iconst 2, 1) := by decide +kernel
theorem dX12_holds_27 : decode cX12_holds 27 = .ok (.iadd, 1) := by decide +kernel
theorem dX12_holds_28 : decode cX12_holds 28 = .ok (.iaload, 1) := by decide +kernel
theorem dX12_holds_29 : decode cX12_holds 29 = .ok (.iadd, 1) := by decide +kernel
theorem dX12_holds_30 : decode cX12_holds 30 = .ok (.ireturn, 1) := by decide +kernel
theorem dX12_sucks_0 : decode cX12_sucks 0 = .ok (.iconst 0, 1) := by decide +kernel
theorem dX12_sucks_1 : decode cX12_sucks 1 = .ok (.istore_n 2, 1) := by decide +kernel
theorem dX12_sucks_2 : decode cX12_sucks 2 = .ok (.iload_n 2, 1) := by decide +kernel
theorem dX12_sucks_3 : decode cX12_sucks 3 = .ok (.iconst 3, 1) := by decide +kernel
theorem dX12_sucks_4 : decode cX12_sucks 4 = .ok (.if_icmp .ge 142, 3) := by decide +kernel
theorem dX12_sucks_7 : decode cX12_sucks 7 = .ok (.iconst 3, 1) := by decide +kernel
theorem dX12_sucks_8 : decode cX12_sucks 8 = .ok (.aload_n 0, 1) := by decide +kernel
theorem dX12_sucks_9 : decode cX12_sucks 9 = .ok (.getfield 34, 3) := by decide +kernel
theorem dX12_sucks_12 : decode cX12_sucks 12 = .ok (.iload_n 1, 1) := by decide +kernel
theorem dX12_sucks_13 : decode cX12_sucks 13 = .ok (.iaload, 1) := by decide +kernel
theorem dX12_sucks_14 : decode cX12_sucks 14 = .ok (.imul, 1) := by decide +kernel
theorem dX12_sucks_15 : decode cX12_sucks 15 = .ok (.iload_n 2, 1) := by decide +kernel
theorem dX12_sucks_16 : decode cX12_sucks 16 = .ok (.iadd, 1) := by decide +kernel
theorem dX12_sucks_17 : decode cX12_sucks 17 = .ok (.istore_n 3, 1) := by decide +kernel
theorem dX12_sucks_18 : decode cX12_sucks 18 = .ok (.aload_n 0, 1) := by decide +kernel
theorem dX12_sucks_19 : decode cX12_sucks 19 = .ok (.iload_n 3, 1) := by decide +kernel
theorem dX12_sucks_20 : decode cX12_sucks 20 = .ok (.aload_n 0, 1) := by decide +kernel
theorem dX12_sucks_21 : decode cX12_sucks 21 = .ok (.getfield 37, 3) := by decide +kernel
theorem dX12_sucks_24 : decode cX12_sucks 24 = .ok (.iconst 3, 1) := by decide +kernel
theorem dX12_sucks_25 : decode cX12_sucks 25 = .ok (.iload_n 1, 1) := by decide +kernel
theorem dX12_sucks_26 : decode cX12_sucks 26 = .ok (.imul, 1) := by decide +kernel
theorem dX12_sucks_27 : decode cX12_sucks 27 = .ok (.iload_n 2, 1) := by decide +kernel
theorem dX12_sucks_28 : decode cX12_sucks 28 = .ok (.iadd, 1) := by decide +kernel
theorem dX12_sucks_29 : decode cX12_sucks 29 = .ok (.iaload, 1) := by decide +kernel
theorem dX12_sucks_30 : decode cX12_sucks 30 = .ok (.invokevirtual 257, 3) := by decide +kernel
theorem dX12_sucks_33 : decode cX12_sucks 33 = .ok (.istore 4, 2) := by decide +kernel
theorem dX12_sucks_35 : decode cX12_sucks 35 = .ok (.iload 4, 2) := by decide +kernel
theorem dX12_sucks_37 : decode cX12_sucks 37 = .ok (.aload_n 0, 1) := by decide +kernel
theorem dX12_sucks_38 : decode cX12_sucks 38 = .ok (.getfield 46, 3) := by decide +kernel
theorem dX12_sucks_41 : decode cX12_sucks 41 = .ok (.iload_n 3, 1) := by decide +kernel
theorem dX12_sucks_42 : decode cX12_sucks 42 = .ok (.iaload, 1) := by decide +kernel
theorem dX12_sucks_43 : decode cX12_sucks 43 = .ok (.if_icmp .le 11, 3) := by decide +kernel
theorem dX12_sucks_46 : decode cX12_sucks 46 = .ok (.aload_n 0, 1) := by decide +kernel
theorem dX12_sucks_47 : decode cX12_sucks 47 = .ok (.getfield 46, 3) := by decide +kernel
theorem dX12_sucks_50 : decode cX12_sucks 50 = .ok (.iload_n 3, 1) := by decide +kernel
theorem dX12_sucks_51 : decode cX12_sucks 51 = .ok (.iaload, 1) := by decide +kernel
theorem dX12_sucks_52 : decode cX12_sucks 52 = .ok (.istore 4, 2) := by decide +kernel
theorem dX12_sucks_54 : decode cX12_sucks 54 = .ok (.aload_n 0, 1) := by decide +kernel
theorem dX12_sucks_55 : decode cX12_sucks 55 = .ok (.getfield 40, 3) := by decide +kernel
theorem dX12_sucks_58 : decode cX12_sucks 58 = .ok (.iload_n 1, 1) := by decide +kernel
theorem dX12_sucks_59 : decode cX12_sucks 59 = .ok (.iaload, 1) := by decide +kernel
theorem dX12_sucks_60 : decode cX12_sucks 60 = .ok (.ifCond .le 34, 3) := by decide +kernel
theorem dX12_sucks_63 : decode cX12_sucks 63 = .ok (.iload 4, 2) := by decide +kernel
theorem dX12_sucks_65 : decode cX12_sucks 65 = .ok (.aload_n 0, 1) := by decide +kernel
theorem dX12_sucks_66 : decode cX12_sucks 66 = .ok (.getfield 40, 3) := by decide +kernel
theorem dX12_sucks_69 : decode cX12_sucks 69 = .ok (.iload_n 1, 1) := by decide +kernel
theorem dX12_sucks_70 : decode cX12_sucks 70 = .ok (.iaload, 1) := by decide +kernel
theorem dX12_sucks_71 : decode cX12_sucks 71 = .ok (.aload_n 0, 1) := by decide +kernel
theorem dX12_sucks_72 : decode cX12_sucks 72 = .ok (.iload_n 1, 1) := by decide +kernel
theorem dX12_sucks_73 : decode cX12_sucks 73 = .ok (.invokevirtual 265, 3) := by decide +kernel
theorem dX12_sucks_76 : decode cX12_sucks 76 = .ok (.isub, 1) := by decide +kernel
theorem dX12_sucks_77 : decode cX12_sucks 77 = .ok (.if_icmp .le 17, 3) := by decide +kernel
theorem dX12_sucks_80 : decode cX12_sucks 80 = .ok (.aload_n 0, 1) := by decide +kernel
theorem dX12_sucks_81 : decode cX12_sucks 81 = .ok (.getfield 40, 3) := by decide +kernel
theorem dX12_sucks_84 : decode cX12_sucks 84 = .ok (.iload_n 1, 1) := by decide +kernel
theorem dX12_sucks_85 : decode cX12_sucks 85 = .ok (.iaload, 1) := by decide +kernel
theorem dX12_sucks_86 : decode cX12_sucks 86 = .ok (.aload_n 0, 1) := by decide +kernel
theorem dX12_sucks_87 : decode cX12_sucks 87 = .ok (.iload_n 1, 1) := by decide +kernel
theorem dX12_sucks_88 : decode cX12_sucks 88 = .ok (.invokevirtual 265, 3) := by decide +kernel
theorem dX12_sucks_91 : decode cX12_sucks 91 = .ok (.isub, 1) := by decide +kernel
theorem dX12_sucks_92 : decode cX12_sucks 92 = .ok (.istore 4, 2) := by decide +kernel
theorem dX12_sucks_94 : decode cX12_sucks 94 = .ok (.aload_n 0, 1) := by decide +kernel
theorem dX12_sucks_95 : decode cX12_sucks 95 = .ok (.getfield 46, 3) := by decide +kernel
theorem dX12_sucks_98 : decode cX12_sucks 98 = .ok (.iload_n 3, 1) := by decide +kernel
theorem dX12_sucks_99 : decode cX12_sucks 99 = .ok (.dup2, 1) := by decide +kernel
theorem dX12_sucks_100 : decode cX12_sucks 100 = .ok (.iaload, 1) := by decide +kernel
theorem dX12_sucks_101 : decode cX12_sucks 101 = .ok (.iload 4, 2) := by decide +kernel
theorem dX12_sucks_103 : decode cX12_sucks 103 = .ok (.isub, 1) := by decide +kernel
theorem dX12_sucks_104 : decode cX12_sucks 104 = .ok (.iastore, 1) := by decide +kernel
theorem dX12_sucks_105 : decode cX12_sucks 105 = .ok (.aload_n 0, 1) := by decide +kernel
theorem dX12_sucks_106 : decode cX12_sucks 106 = .ok (.getfield 52, 3) := by decide +kernel
theorem dX12_sucks_109 : decode cX12_sucks 109 = .ok (.iconst 3, 1) := by decide +kernel
theorem dX12_sucks_110 : decode cX12_sucks 110 = .ok (.iload_n 1, 1) := by decide +kernel
theorem dX12_sucks_111 : decode cX12_sucks 111 = .ok (.imul, 1) := by decide +kernel
theorem dX12_sucks_112 : decode cX12_sucks 112 = .ok (.iload_n 2, 1) := by decide +kernel
theorem dX12_sucks_113 : decode cX12_sucks 113 = .ok (.iadd, 1) := by decide +kernel
theorem dX12_sucks_114 : decode cX12_sucks 114 = .ok (.dup2, 1) := by decide +kernel
theorem dX12_sucks_115 : decode cX12_sucks 115 = .ok (.iaload, 1) := by decide +kernel
theorem dX12_sucks_116 : decode cX12_sucks 116 = .ok (.iload 4, 2) := by decide +kernel
theorem dX12_sucks_118 : decode cX12_sucks 118 = .ok (.iadd, 1) := by decide +kernel
theorem dX12_sucks_119 : decode cX12_sucks 119 = .ok (.iastore, 1) := by decide +kernel
theorem dX12_sucks_120 : decode cX12_sucks 120 = .ok (.aload_n 0, 1) := by decide +kernel
theorem dX12_sucks_121 : decode cX12_sucks 121 = .ok (.getfield 40, 3) := by decide +kernel
theorem dX12_sucks_124 : decode cX12_sucks 124 = .ok (.iload_n 1, 1) := by decide +kernel
theorem dX12_sucks_125 : decode cX12_sucks 125 = .ok (.iaload, 1) := by decide +kernel
theorem dX12_sucks_126 : decode cX12_sucks 126 = .ok (.ifCond .ne 14, 3) := by decide +kernel
theorem dX12_sucks_129 : decode cX12_sucks 129 = .ok (.aload_n 0, 1) := by decide +kernel
theorem dX12_sucks_130 : decode cX12_sucks 130 = .ok (.getfield 58, 3) := by decide +kernel
theorem dX12_sucks_133 : decode cX12_sucks 133 = .ok (.iload_n 2, 1) := by decide +kernel
theorem dX12_sucks_134 : decode cX12_sucks 134 = .ok (.dup2, 1) := by decide +kernel
theorem dX12_sucks_135 : decode cX12_sucks 135 = .ok (.iaload, 1) := by decide +kernel
theorem dX12_sucks_136 : decode cX12_sucks 136 = .ok (.iload 4, 2) := by decide +kernel
theorem dX12_sucks_138 : decode cX12_sucks 138 = .ok (.iadd, 1) := by decide +kernel
theorem dX12_sucks_139 : decode cX12_sucks 139 = .ok (.iastore, 1) := by decide +kernel
theorem dX12_sucks_140 : decode cX12_sucks 140 = .ok (.iinc 2 1, 3) := by decide +kernel
theorem dX12_sucks_143 : decode cX12_sucks 143 = .ok (.goto (-141), 3) := by decide +kernel
theorem dX12_sucks_146 : decode cX12_sucks 146 = .ok (.return_, 1) := by decide +kernel
theorem dX12_givesBack_0 : decode cX12_givesBack 0 = .ok (.iconst 0, 1) := by decide +kernel
theorem dX12_givesBack_1 : decode cX12_givesBack 1 = .ok (.istore_n 2, 1) := by decide +kernel
theorem dX12_givesBack_2 : decode cX12_givesBack 2 = .ok (.iload_n 2, 1) := by decide +kernel
theorem dX12_givesBack_3 : decode cX12_givesBack 3 = .ok (.iconst 3, 1) := by decide +kernel
theorem dX12_givesBack_4 : decode cX12_givesBack 4 = .ok (.if_icmp .ge 59, 3) := by decide +kernel
theorem dX12_givesBack_7 : decode cX12_givesBack 7 = .ok (.aload_n 0, 1) := by decide +kernel
theorem dX12_givesBack_8 : decode cX12_givesBack 8 = .ok (.getfield 52, 3) := by decide +kernel
theorem dX12_givesBack_11 : decode cX12_givesBack 11 = .ok (.iconst 3, 1) := by decide +kernel
theorem dX12_givesBack_12 : decode cX12_givesBack 12 = .ok (.iload_n 1, 1) := by decide +kernel
theorem dX12_givesBack_13 : decode cX12_givesBack 13 = .ok (.imul, 1) := by decide +kernel
theorem dX12_givesBack_14 : decode cX12_givesBack 14 = .ok (.iload_n 2, 1) := by decide +kernel
theorem dX12_givesBack_15 : decode cX12_givesBack 15 = .ok (.iadd, 1) := by decide +kernel
theorem dX12_givesBack_16 : decode cX12_givesBack 16 = .ok (.iaload, 1) := by decide +kernel
theorem dX12_givesBack_17 : decode cX12_givesBack 17 = .ok (.bipush 9, 2) := by decide +kernel
theorem dX12_givesBack_19 : decode cX12_givesBack 19 = .ok (.iadd, 1) := by decide +kernel
theorem dX12_givesBack_20 : decode cX12_givesBack 20 = .ok (.bipush 10, 2) := by decide +kernel
theorem dX12_givesBack_22 : decode cX12_givesBack 22 = .ok (.idiv, 1) := by decide +kernel
theorem dX12_givesBack_23 : decode cX12_givesBack 23 = .ok (.istore_n 3, 1) := by decide +kernel
theorem dX12_givesBack_24 : decode cX12_givesBack 24 = .ok (.aload_n 0, 1) := by decide +kernel
theorem dX12_givesBack_25 : decode cX12_givesBack 25 = .ok (.getfield 52, 3) := by decide +kernel
theorem dX12_givesBack_28 : decode cX12_givesBack 28 = .ok (.iconst 3, 1) := by decide +kernel
theorem dX12_givesBack_29 : decode cX12_givesBack 29 = .ok (.iload_n 1, 1) := by decide +kernel
theorem dX12_givesBack_30 : decode cX12_givesBack 30 = .ok (.imul, 1) := by decide +kernel
theorem dX12_givesBack_31 : decode cX12_givesBack 31 = .ok (.iload_n 2, 1) := by decide +kernel
theorem dX12_givesBack_32 : decode cX12_givesBack 32 = .ok (.iadd, 1) := by decide +kernel
theorem dX12_givesBack_33 : decode cX12_givesBack 33 = .ok (.dup2, 1) := by decide +kernel
theorem dX12_givesBack_34 : decode cX12_givesBack 34 = .ok (.iaload, 1) := by decide +kernel
theorem dX12_givesBack_35 : decode cX12_givesBack 35 = .ok (.iload_n 3, 1) := by decide +kernel
theorem dX12_givesBack_36 : decode cX12_givesBack 36 = .ok (.isub, 1) := by decide +kernel
theorem dX12_givesBack_37 : decode cX12_givesBack 37 = .ok (.iastore, 1) := by decide +kernel
theorem dX12_givesBack_38 : decode cX12_givesBack 38 = .ok (.aload_n 0, 1) := by decide +kernel
theorem dX12_givesBack_39 : decode cX12_givesBack 39 = .ok (.getfield 46, 3) := by decide +kernel
theorem dX12_givesBack_42 : decode cX12_givesBack 42 = .ok (.iconst 3, 1) := by decide +kernel
theorem dX12_givesBack_43 : decode cX12_givesBack 43 = .ok (.aload_n 0, 1) := by decide +kernel
theorem dX12_givesBack_44 : decode cX12_givesBack 44 = .ok (.getfield 34, 3) := by decide +kernel
theorem dX12_givesBack_47 : decode cX12_givesBack 47 = .ok (.iload_n 1, 1) := by decide +kernel
theorem dX12_givesBack_48 : decode cX12_givesBack 48 = .ok (.iaload, 1) := by decide +kernel
theorem dX12_givesBack_49 : decode cX12_givesBack 49 = .ok (.imul, 1) := by decide +kernel
theorem dX12_givesBack_50 : decode cX12_givesBack 50 = .ok (.iload_n 2, 1) := by decide +kernel
theorem dX12_givesBack_51 : decode cX12_givesBack 51 = .ok (.iadd, 1) := by decide +kernel
theorem dX12_givesBack_52 : decode cX12_givesBack 52 = .ok (.dup2, 1) := by decide +kernel
theorem dX12_givesBack_53 : decode cX12_givesBack 53 = .ok (.iaload, 1) := by decide +kernel
theorem dX12_givesBack_54 : decode cX12_givesBack 54 = .ok (.iload_n 3, 1) := by decide +kernel
theorem dX12_givesBack_55 : decode cX12_givesBack 55 = .ok (.iadd, 1) := by decide +kernel
theorem dX12_givesBack_56 : decode cX12_givesBack 56 = .ok (.iastore, 1) := by decide +kernel
theorem dX12_givesBack_57 : decode cX12_givesBack 57 = .ok (.iinc 2 1, 3) := by decide +kernel
theorem dX12_givesBack_60 : decode cX12_givesBack 60 = .ok (.goto (-58), 3) := by decide +kernel
theorem dX12_givesBack_63 : decode cX12_givesBack 63 = .ok (.aload_n 0, 1) := by decide +kernel
theorem dX12_givesBack_64 : decode cX12_givesBack 64 = .ok (.iload_n 1, 1) := by decide +kernel
theorem dX12_givesBack_65 : decode cX12_givesBack 65 = .ok (.invokevirtual 265, 3) := by decide +kernel
theorem dX12_givesBack_68 : decode cX12_givesBack 68 = .ok (.ifCond .ne 10, 3) := by decide +kernel
theorem dX12_givesBack_71 : decode cX12_givesBack 71 = .ok (.aload_n 0, 1) := by decide +kernel
theorem dX12_givesBack_72 : decode cX12_givesBack 72 = .ok (.getfield 68, 3) := by decide +kernel
theorem dX12_givesBack_75 : decode cX12_givesBack 75 = .ok (.iload_n 1, 1) := by decide +kernel
theorem dX12_givesBack_76 : decode cX12_givesBack 76 = .ok (.iconst 0, 1) := by decide +kernel
theorem dX12_givesBack_77 : decode cX12_givesBack 77 = .ok (.bastore, 1) := by decide +kernel
theorem dX12_givesBack_78 : decode cX12_givesBack 78 = .ok (.return_, 1) := by decide +kernel
theorem dX12_passes_0 : decode cX12_passes 0 = .ok (.iconst 0, 1) := by decide +kernel
theorem dX12_passes_1 : decode cX12_passes 1 = .ok (.istore_n 1, 1) := by decide +kernel
theorem dX12_passes_2 : decode cX12_passes 2 = .ok (.iload_n 1, 1) := by decide +kernel
theorem dX12_passes_3 : decode cX12_passes 3 = .ok (.iconst 3, 1) := by decide +kernel
theorem dX12_passes_4 : decode cX12_passes 4 = .ok (.aload_n 0, 1) := by decide +kernel
theorem dX12_passes_5 : decode cX12_passes 5 = .ok (.getfield 210, 3) := by decide +kernel
theorem dX12_passes_8 : decode cX12_passes 8 = .ok (.imul, 1) := by decide +kernel
theorem dX12_passes_9 : decode cX12_passes 9 = .ok (.if_icmp .ge 69, 3) := by decide +kernel
theorem dX12_passes_12 : decode cX12_passes 12 = .ok (.aload_n 0, 1) := by decide +kernel
theorem dX12_passes_13 : decode cX12_passes 13 = .ok (.getfield 49, 3) := by decide +kernel
theorem dX12_passes_16 : decode cX12_passes 16 = .ok (.iload_n 1, 1) := by decide +kernel
theorem dX12_passes_17 : decode cX12_passes 17 = .ok (.iaload, 1) := by decide +kernel
theorem dX12_passes_18 : decode cX12_passes 18 = .ok (.i2l, 1) := by decide +kernel
theorem dX12_passes_19 : decode cX12_passes 19 = .ok (.aload_n 0, 1) := by decide +kernel
theorem dX12_passes_20 : decode cX12_passes 20 = .ok (.getfield 22, 3) := by decide +kernel
theorem dX12_passes_23 : decode cX12_passes 23 = .ok (.bipush 10, 2) := by decide +kernel
theorem dX12_passes_25 : decode cX12_passes 25 = .ok (.aload_n 0, 1) := by decide +kernel
theorem dX12_passes_26 : decode cX12_passes 26 = .ok (.getfield 16, 3) := by decide +kernel
theorem dX12_passes_29 : decode cX12_passes 29 = .ok (.iload_n 1, 1) := by decide +kernel
theorem dX12_passes_30 : decode cX12_passes 30 = .ok (.iconst 3, 1) := by decide +kernel
theorem dX12_passes_31 : decode cX12_passes 31 = .ok (.idiv, 1) := by decide +kernel
theorem dX12_passes_32 : decode cX12_passes 32 = .ok (.iaload, 1) := by decide +kernel
theorem dX12_passes_33 : decode cX12_passes 33 = .ok (.imul, 1) := by decide +kernel
theorem dX12_passes_34 : decode cX12_passes 34 = .ok (.aload_n 0, 1) := by decide +kernel
theorem dX12_passes_35 : decode cX12_passes 35 = .ok (.getfield 19, 3) := by decide +kernel
theorem dX12_passes_38 : decode cX12_passes 38 = .ok (.iload_n 1, 1) := by decide +kernel
theorem dX12_passes_39 : decode cX12_passes 39 = .ok (.iconst 3, 1) := by decide +kernel
theorem dX12_passes_40 : decode cX12_passes 40 = .ok (.idiv, 1) := by decide +kernel
theorem dX12_passes_41 : decode cX12_passes 41 = .ok (.iaload, 1) := by decide +kernel
theorem dX12_passes_42 : decode cX12_passes 42 = .ok (.iadd, 1) := by decide +kernel
theorem dX12_passes_43 : decode cX12_passes 43 = .ok (.iaload, 1) := by decide +kernel
theorem dX12_passes_44 : decode cX12_passes 44 = .ok (.i2l, 1) := by decide +kernel
theorem dX12_passes_45 : decode cX12_passes 45 = .ok (.lmul, 1) := by decide +kernel
theorem dX12_passes_46 : decode cX12_passes 46 = .ok (.ldc2_w 268, 3) := by decide +kernel
theorem dX12_passes_49 : decode cX12_passes 49 = .ok (.ldiv, 1) := by decide +kernel
theorem dX12_passes_50 : decode cX12_passes 50 = .ok (.l2i, 1) := by decide +kernel
theorem dX12_passes_51 : decode cX12_passes 51 = .ok (.istore_n 2, 1) := by decide +kernel
theorem dX12_passes_52 : decode cX12_passes 52 = .ok (.aload_n 0, 1) := by decide +kernel
theorem dX12_passes_53 : decode cX12_passes 53 = .ok (.getfield 49, 3) := by decide +kernel
theorem dX12_passes_56 : decode cX12_passes 56 = .ok (.iload_n 1, 1) := by decide +kernel
theorem dX12_passes_57 : decode cX12_passes 57 = .ok (.dup2, 1) := by decide +kernel
theorem dX12_passes_58 : decode cX12_passes 58 = .ok (.iaload, 1) := by decide +kernel
theorem dX12_passes_59 : decode cX12_passes 59 = .ok (.iload_n 2, 1) := by decide +kernel
theorem dX12_passes_60 : decode cX12_passes 60 = .ok (.isub, 1) := by decide +kernel
theorem dX12_passes_61 : decode cX12_passes 61 = .ok (.iastore, 1) := by decide +kernel
theorem dX12_passes_62 : decode cX12_passes 62 = .ok (.aload_n 0, 1) := by decide +kernel
theorem dX12_passes_63 : decode cX12_passes 63 = .ok (.getfield 46, 3) := by decide +kernel
theorem dX12_passes_66 : decode cX12_passes 66 = .ok (.iload_n 1, 1) := by decide +kernel
theorem dX12_passes_67 : decode cX12_passes 67 = .ok (.dup2, 1) := by decide +kernel
theorem dX12_passes_68 : decode cX12_passes 68 = .ok (.iaload, 1) := by decide +kernel
theorem dX12_passes_69 : decode cX12_passes 69 = .ok (.iload_n 2, 1) := by decide +kernel
theorem dX12_passes_70 : decode cX12_passes 70 = .ok (.iadd, 1) := by decide +kernel
theorem dX12_passes_71 : decode cX12_passes 71 = .ok (.iastore, 1) := by decide +kernel
theorem dX12_passes_72 : decode cX12_passes 72 = .ok (.iinc 1 1, 3) := by decide +kernel
theorem dX12_passes_75 : decode cX12_passes 75 = .ok (.goto (-73), 3) := by decide +kernel
theorem dX12_passes_78 : decode cX12_passes 78 = .ok (.iconst 0, 1) := by decide +kernel
theorem dX12_passes_79 : decode cX12_passes 79 = .ok (.istore_n 1, 1) := by decide +kernel
theorem dX12_passes_80 : decode cX12_passes 80 = .ok (.iload_n 1, 1) := by decide +kernel
theorem dX12_passes_81 : decode cX12_passes 81 = .ok (.iconst 3, 1) := by decide +kernel
theorem dX12_passes_82 : decode cX12_passes 82 = .ok (.aload_n 0, 1) := by decide +kernel
theorem dX12_passes_83 : decode cX12_passes 83 = .ok (.getfield 210, 3) := by decide +kernel
theorem dX12_passes_86 : decode cX12_passes 86 = .ok (.imul, 1) := by decide +kernel
theorem dX12_passes_87 : decode cX12_passes 87 = .ok (.if_icmp .ge 41, 3) := by decide +kernel
theorem dX12_passes_90 : decode cX12_passes 90 = .ok (.aload_n 0, 1) := by decide +kernel
theorem dX12_passes_91 : decode cX12_passes 91 = .ok (.getfield 46, 3) := by decide +kernel
theorem dX12_passes_94 : decode cX12_passes 94 = .ok (.iload_n 1, 1) := by decide +kernel
theorem dX12_passes_95 : decode cX12_passes 95 = .ok (.dup2, 1) := by decide +kernel
theorem dX12_passes_96 : decode cX12_passes 96 = .ok (.iaload, 1) := by decide +kernel
theorem dX12_passes_97 : decode cX12_passes 97 = .ok (.aload_n 0, 1) := by decide +kernel
theorem dX12_passes_98 : decode cX12_passes 98 = .ok (.getfield 43, 3) := by decide +kernel
theorem dX12_passes_101 : decode cX12_passes 101 = .ok (.iload_n 1, 1) := by decide +kernel
theorem dX12_passes_102 : decode cX12_passes 102 = .ok (.iaload, 1) := by decide +kernel
theorem dX12_passes_103 : decode cX12_passes 103 = .ok (.iadd, 1) := by decide +kernel
theorem dX12_passes_104 : decode cX12_passes 104 = .ok (.iastore, 1) := by decide +kernel
theorem dX12_passes_105 : decode cX12_passes 105 = .ok (.aload_n 0, 1) := by decide +kernel
theorem dX12_passes_106 : decode cX12_passes 106 = .ok (.getfield 55, 3) := by decide +kernel
theorem dX12_passes_109 : decode cX12_passes 109 = .ok (.iload_n 1, 1) := by decide +kernel
theorem dX12_passes_110 : decode cX12_passes 110 = .ok (.iconst 3, 1) := by decide +kernel
theorem dX12_passes_111 : decode cX12_passes 111 = .ok (.irem, 1) := by decide +kernel
theorem dX12_passes_112 : decode cX12_passes 112 = .ok (.dup2, 1) := by decide +kernel
theorem dX12_passes_113 : decode cX12_passes 113 = .ok (.iaload, 1) := by decide +kernel
theorem dX12_passes_114 : decode cX12_passes 114 = .ok (.aload_n 0, 1) := by decide +kernel
theorem dX12_passes_115 : decode cX12_passes 115 = .ok (.getfield 43, 3) := by decide +kernel
theorem dX12_passes_118 : decode cX12_passes 118 = .ok (.iload_n 1, 1) := by decide +kernel
theorem dX12_passes_119 : decode cX12_passes 119 = .ok (.iaload, 1) := by decide +kernel
theorem dX12_passes_120 : decode cX12_passes 120 = .ok (.iadd, 1) := by decide +kernel
theorem dX12_passes_121 : decode cX12_passes 121 = .ok (.iastore, 1) := by decide +kernel
theorem dX12_passes_122 : decode cX12_passes 122 = .ok (.iinc 1 1, 3) := by decide +kernel
theorem dX12_passes_125 : decode cX12_passes 125 = .ok (.goto (-45), 3) := by decide +kernel
theorem dX12_passes_128 : decode cX12_passes 128 = .ok (.aload_n 0, 1) := by decide +kernel
theorem dX12_passes_129 : decode cX12_passes 129 = .ok (.invokevirtual 270, 3) := by decide +kernel
theorem dX12_passes_132 : decode cX12_passes 132 = .ok (.iconst 0, 1) := by decide +kernel
theorem dX12_passes_133 : decode cX12_passes 133 = .ok (.istore_n 1, 1) := by decide +kernel
theorem dX12_passes_134 : decode cX12_passes 134 = .ok (.iload_n 1, 1) := by decide +kernel
theorem dX12_passes_135 : decode cX12_passes 135 = .ok (.aload_n 0, 1) := by decide +kernel
theorem dX12_passes_136 : decode cX12_passes 136 = .ok (.getfield 217, 3) := by decide +kernel
theorem dX12_passes_139 : decode cX12_passes 139 = .ok (.if_icmp .ge 23, 3) := by decide +kernel
theorem dX12_passes_142 : decode cX12_passes 142 = .ok (.aload_n 0, 1) := by decide +kernel
theorem dX12_passes_143 : decode cX12_passes 143 = .ok (.getfield 65, 3) := by decide +kernel
theorem dX12_passes_146 : decode cX12_passes 146 = .ok (.iload_n 1, 1) := by decide +kernel
theorem dX12_passes_147 : decode cX12_passes 147 = .ok (.baload, 1) := by decide +kernel
theorem dX12_passes_148 : decode cX12_passes 148 = .ok (.ifCond .eq 8, 3) := by decide +kernel
theorem dX12_passes_151 : decode cX12_passes 151 = .ok (.aload_n 0, 1) := by decide +kernel
theorem dX12_passes_152 : decode cX12_passes 152 = .ok (.iload_n 1, 1) := by decide +kernel
theorem dX12_passes_153 : decode cX12_passes 153 = .ok (.invokevirtual 273, 3) := by decide +kernel
theorem dX12_passes_156 : decode cX12_passes 156 = .ok (.iinc 1 1, 3) := by decide +kernel
theorem dX12_passes_159 : decode cX12_passes 159 = .ok (.goto (-25), 3) := by decide +kernel
theorem dX12_passes_162 : decode cX12_passes 162 = .ok (.iconst 0, 1) := by decide +kernel
theorem dX12_passes_163 : decode cX12_passes 163 = .ok (.istore_n 1, 1) := by decide +kernel
theorem dX12_passes_164 : decode cX12_passes 164 = .ok (.iload_n 1, 1) := by decide +kernel
theorem dX12_passes_165 : decode cX12_passes 165 = .ok (.aload_n 0, 1) := by decide +kernel
theorem dX12_passes_166 : decode cX12_passes 166 = .ok (.getfield 217, 3) := by decide +kernel
theorem dX12_passes_169 : decode cX12_passes 169 = .ok (.if_icmp .ge 23, 3) := by decide +kernel
theorem dX12_passes_172 : decode cX12_passes 172 = .ok (.aload_n 0, 1) := by decide +kernel
theorem dX12_passes_173 : decode cX12_passes 173 = .ok (.getfield 68, 3) := by decide +kernel
theorem dX12_passes_176 : decode cX12_passes 176 = .ok (.iload_n 1, 1) := by decide +kernel
theorem dX12_passes_177 : decode cX12_passes 177 = .ok (.baload, 1) := by decide +kernel
theorem dX12_passes_178 : decode cX12_passes 178 = .ok (.ifCond .eq 8, 3) := by decide +kernel
theorem dX12_passes_181 : decode cX12_passes 181 = .ok (.aload_n 0, 1) := by decide +kernel
theorem dX12_passes_182 : decode cX12_passes 182 = .ok (.iload_n 1, 1) := by decide +kernel
theorem dX12_passes_183 : decode cX12_passes 183 = .ok (.invokevirtual 277, 3) := by decide +kernel
theorem dX12_passes_186 : decode cX12_passes 186 = .ok (.iinc 1 1, 3) := by decide +kernel
theorem dX12_passes_189 : decode cX12_passes 189 = .ok (.goto (-25), 3) := by decide +kernel
theorem dX12_passes_192 : decode cX12_passes 192 = .ok (.aload_n 0, 1) := by decide +kernel
theorem dX12_passes_193 : decode cX12_passes 193 = .ok (.dup, 1) := by decide +kernel
theorem dX12_passes_194 : decode cX12_passes 194 = .ok (.getfield 280, 3) := by decide +kernel
theorem dX12_passes_197 : decode cX12_passes 197 = .ok (.iconst 1, 1) := by decide +kernel
theorem dX12_passes_198 : decode cX12_passes 198 = .ok (.iadd, 1) := by decide +kernel
theorem dX12_passes_199 : decode cX12_passes 199 = .ok (.putfield 280, 3) := by decide +kernel
theorem dX12_passes_202 : decode cX12_passes 202 = .ok (.return_, 1) := by decide +kernel
theorem dX12_ticks_0 : decode cX12_ticks 0 = .ok (.iload_n 1, 1) := by decide +kernel
theorem dX12_ticks_1 : decode cX12_ticks 1 = .ok (.iconst 1, 1) := by decide +kernel
theorem dX12_ticks_2 : decode cX12_ticks 2 = .ok (.if_icmp .ge 8, 3) := by decide +kernel
theorem dX12_ticks_5 : decode cX12_ticks 5 = .ok (.bipush (-4), 2) := by decide +kernel
theorem dX12_ticks_7 : decode cX12_ticks 7 = .ok (.goto 28, 3) := by decide +kernel
theorem dX12_ticks_10 : decode cX12_ticks 10 = .ok (.iload_n 1, 1) := by decide +kernel
theorem dX12_ticks_11 : decode cX12_ticks 11 = .ok (.sipush 200, 3) := by decide +kernel
theorem dX12_ticks_14 : decode cX12_ticks 14 = .ok (.if_icmp .gt 15, 3) := by decide +kernel
theorem dX12_ticks_17 : decode cX12_ticks 17 = .ok (.aload_n 0, 1) := by decide +kernel
theorem dX12_ticks_18 : decode cX12_ticks 18 = .ok (.getfield 280, 3) := by decide +kernel
theorem dX12_ticks_21 : decode cX12_ticks 21 = .ok (.iload_n 1, 1) := by decide +kernel
theorem dX12_ticks_22 : decode cX12_ticks 22 = .ok (.iadd, 1) := by decide +kernel
theorem dX12_ticks_23 : decode cX12_ticks 23 = .ok (.sipush 5000, 3) := by decide +kernel
theorem dX12_ticks_26 : decode cX12_ticks 26 = .ok (.if_icmp .le 8, 3) := by decide +kernel
theorem dX12_ticks_29 : decode cX12_ticks 29 = .ok (.bipush (-6), 2) := by decide +kernel
theorem dX12_ticks_31 : decode cX12_ticks 31 = .ok (.goto 4, 3) := by decide +kernel
theorem dX12_ticks_34 : decode cX12_ticks 34 = .ok (.iconst 0, 1) := by decide +kernel
theorem dX12_ticks_35 : decode cX12_ticks 35 = .ok (.istore_n 2, 1) := by decide +kernel
theorem dX12_ticks_36 : decode cX12_ticks 36 = .ok (.iload_n 2, 1) := by decide +kernel
theorem dX12_ticks_37 : decode cX12_ticks 37 = .ok (.ifCond .eq 9, 3) := by decide +kernel
theorem dX12_ticks_40 : decode cX12_ticks 40 = .ok (.aload_n 0, 1) := by decide +kernel
theorem dX12_ticks_41 : decode cX12_ticks 41 = .ok (.iload_n 2, 1) := by decide +kernel
theorem dX12_ticks_42 : decode cX12_ticks 42 = .ok (.invokevirtual 226, 3) := by decide +kernel
theorem dX12_ticks_45 : decode cX12_ticks 45 = .ok (.ireturn, 1) := by decide +kernel
theorem dX12_ticks_46 : decode cX12_ticks 46 = .ok (.aload_n 0, 1) := by decide +kernel
theorem dX12_ticks_47 : decode cX12_ticks 47 = .ok (.invokevirtual 235, 3) := by decide +kernel
theorem dX12_ticks_50 : decode cX12_ticks 50 = .ok (.iconst 0, 1) := by decide +kernel
theorem dX12_ticks_51 : decode cX12_ticks 51 = .ok (.istore_n 3, 1) := by decide +kernel
theorem dX12_ticks_52 : decode cX12_ticks 52 = .ok (.iload_n 3, 1) := by decide +kernel
theorem dX12_ticks_53 : decode cX12_ticks 53 = .ok (.iload_n 1, 1) := by decide +kernel
theorem dX12_ticks_54 : decode cX12_ticks 54 = .ok (.if_icmp .ge 13, 3) := by decide +kernel
theorem dX12_ticks_57 : decode cX12_ticks 57 = .ok (.aload_n 0, 1) := by decide +kernel
theorem dX12_ticks_58 : decode cX12_ticks 58 = .ok (.invokevirtual 283, 3) := by decide +kernel
theorem dX12_ticks_61 : decode cX12_ticks 61 = .ok (.iinc 3 1, 3) := by decide +kernel
theorem dX12_ticks_64 : decode cX12_ticks 64 = .ok (.goto (-12), 3) := by decide +kernel
theorem dX12_ticks_67 : decode cX12_ticks 67 = .ok (.aload_n 0, 1) := by decide +kernel
theorem dX12_ticks_68 : decode cX12_ticks 68 = .ok (.getfield 280, 3) := by decide +kernel
theorem dX12_ticks_71 : decode cX12_ticks 71 = .ok (.ireturn, 1) := by decide +kernel
theorem dX12_push_0 : decode cX12_push 0 = .ok (.aload_n 0, 1) := by decide +kernel
theorem dX12_push_1 : decode cX12_push 1 = .ok (.getfield 46, 3) := by decide +kernel
theorem dX12_push_4 : decode cX12_push 4 = .ok (.iconst 3, 1) := by decide +kernel
theorem dX12_push_5 : decode cX12_push 5 = .ok (.iload_n 1, 1) := by decide +kernel
theorem dX12_push_6 : decode cX12_push 6 = .ok (.imul, 1) := by decide +kernel
theorem dX12_push_7 : decode cX12_push 7 = .ok (.iaload, 1) := by decide +kernel
theorem dX12_push_8 : decode cX12_push 8 = .ok (.i2l, 1) := by decide +kernel
theorem dX12_push_9 : decode cX12_push 9 = .ok (.aload_n 0, 1) := by decide +kernel
theorem dX12_push_10 : decode cX12_push 10 = .ok (.getfield 46, 3) := by decide +kernel
theorem dX12_push_13 : decode cX12_push 13 = .ok (.iconst 3, 1) := by decide +kernel
theorem dX12_push_14 : decode cX12_push 14 = .ok (.iload_n 1, 1) := by decide +kernel
theorem dX12_push_15 : decode cX12_push 15 = .ok (.imul, 1) := by decide +kernel
theorem dX12_push_16 : decode cX12_push 16 = .ok (.iconst 1, 1) := by decide +kernel
theorem dX12_push_17 : decode cX12_push 17 = .ok (.iadd, 1) := by decide +kernel
theorem dX12_push_18 : decode cX12_push 18 = .ok (.iaload, 1) := by decide +kernel
theorem dX12_push_19 : decode cX12_push 19 = .ok (.i2l, 1) := by decide +kernel
theorem dX12_push_20 : decode cX12_push 20 = .ok (.ladd, 1) := by decide +kernel
theorem dX12_push_21 : decode cX12_push 21 = .ok (.aload_n 0, 1) := by decide +kernel
theorem dX12_push_22 : decode cX12_push 22 = .ok (.getfield 46, 3) := by decide +kernel
theorem dX12_push_25 : decode cX12_push 25 = .ok (.iconst 3, 1) := by decide +kernel
theorem dX12_push_26 : decode cX12_push 26 = .ok (.iload_n 1, 1) := by decide +kernel
theorem dX12_push_27 : decode cX12_push 27 = .ok (.imul, 1) := by decide +kernel
theorem dX12_push_28 : decode cX12_push 28 = .ok (.iconst 2, 1) := by decide +kernel
theorem dX12_push_29 : decode cX12_push 29 = .ok (.iadd, 1) := by decide +kernel
theorem dX12_push_30 : decode cX12_push 30 = .ok (.iaload, 1) := by decide +kernel
theorem dX12_push_31 : decode cX12_push 31 = .ok (.i2l, 1) := by decide +kernel
theorem dX12_push_32 : decode cX12_push 32 = .ok (.ladd, 1) := by decide +kernel
theorem dX12_push_33 : decode cX12_push 33 = .ok (.lstore_n 2, 1) := by decide +kernel
theorem dX12_push_34 : decode cX12_push 34 = .ok (.ldc2_w 255, 3) := by decide +kernel
theorem dX12_push_37 : decode cX12_push 37 = .ok (.lload_n 2, 1) := by decide +kernel
theorem dX12_push_38 : decode cX12_push 38 = .ok (.lmul, 1) := by decide +kernel
theorem dX12_push_39 : decode cX12_push 39 = .ok (.aload_n 0, 1) := by decide +kernel
theorem dX12_push_40 : decode cX12_push 40 = .ok (.getfield 13, 3) := by decide +kernel
theorem dX12_push_43 : decode cX12_push 43 = .ok (.iload_n 1, 1) := by decide +kernel
theorem dX12_push_44 : decode cX12_push 44 = .ok (.iaload, 1) := by decide +kernel
theorem dX12_push_45 : decode cX12_push 45 = .ok (.i2l, 1) := by decide +kernel
theorem dX12_push_46 : decode cX12_push 46 = .ok (.ldiv, 1) := by decide +kernel
theorem dX12_push_47 : decode cX12_push 47 = .ok (.invokestatic 286, 3) := by decide +kernel
theorem dX12_push_50 : decode cX12_push 50 = .ok (.ireturn, 1) := by decide +kernel
theorem dX12_in_0 : decode cX12_in 0 = .ok (.aload_n 0, 1) := by decide +kernel
theorem dX12_in_1 : decode cX12_in 1 = .ok (.iload_n 1, 1) := by decide +kernel
theorem dX12_in_2 : decode cX12_in 2 = .ok (.invokevirtual 238, 3) := by decide +kernel
theorem dX12_in_5 : decode cX12_in 5 = .ok (.ifCond .eq 10, 3) := by decide +kernel
theorem dX12_in_8 : decode cX12_in 8 = .ok (.iload_n 2, 1) := by decide +kernel
theorem dX12_in_9 : decode cX12_in 9 = .ok (.invokestatic 244, 3) := by decide +kernel
theorem dX12_in_12 : decode cX12_in 12 = .ok (.ifCond .ne 9, 3) := by decide +kernel
theorem dX12_in_15 : decode cX12_in 15 = .ok (.aload_n 0, 1) := by decide +kernel
theorem dX12_in_16 : decode cX12_in 16 = .ok (.iconst (-1), 1) := by decide +kernel
theorem dX12_in_17 : decode cX12_in 17 = .ok (.invokevirtual 226, 3) := by decide +kernel
theorem dX12_in_20 : decode cX12_in 20 = .ok (.ireturn, 1) := by decide +kernel
theorem dX12_in_21 : decode cX12_in 21 = .ok (.iload_n 3, 1) := by decide +kernel
theorem dX12_in_22 : decode cX12_in 22 = .ok (.i2l, 1) := by decide +kernel
theorem dX12_in_23 : decode cX12_in 23 = .ok (.lconst 0, 1) := by decide +kernel
theorem dX12_in_24 : decode cX12_in 24 = .ok (.ldc2_w 290, 3) := by decide +kernel
theorem dX12_in_27 : decode cX12_in 27 = .ok (.invokestatic 222, 3) := by decide +kernel
theorem dX12_in_30 : decode cX12_in 30 = .ok (.ifCond .ne 10, 3) := by decide +kernel
theorem dX12_in_33 : decode cX12_in 33 = .ok (.aload_n 0, 1) := by decide +kernel
theorem dX12_in_34 : decode cX12_in 34 = .ok (.bipush (-2), 2) := by decide +kernel
theorem dX12_in_36 : decode cX12_in 36 = .ok (.invokevirtual 226, 3) := by decide +kernel
theorem dX12_in_39 : decode cX12_in 39 = .ok (.ireturn, 1) := by decide +kernel
theorem dX12_in_40 : decode cX12_in 40 = .ok (.iload_n 3, 1) := by decide +kernel
theorem dX12_in_41 : decode cX12_in 41 = .ok (.ifCond .ne 16, 3) := by decide +kernel
theorem dX12_in_44 : decode cX12_in 44 = .ok (.aload_n 0, 1) := by decide +kernel
theorem dX12_in_45 : decode cX12_in 45 = .ok (.getfield 46, 3) := by decide +kernel
theorem dX12_in_48 : decode cX12_in 48 = .ok (.iconst 3, 1) := by decide +kernel
theorem dX12_in_49 : decode cX12_in 49 = .ok (.iload_n 1, 1) := by decide +kernel
theorem dX12_in_50 : decode cX12_in 50 = .ok (.imul, 1) := by decide +kernel
theorem dX12_in_51 : decode cX12_in 51 = .ok (.iload_n 2, 1) := by decide +kernel
theorem dX12_in_52 : decode cX12_in 52 = .ok (.iadd, 1) := by decide +kernel
theorem dX12_in_53 : decode cX12_in 53 = .ok (.iaload, 1) := by decide +kernel
theorem dX12_in_54 : decode cX12_in 54 = .ok (.goto 26, 3) := by decide +kernel
theorem dX12_in_57 : decode cX12_in 57 = .ok (.iload_n 3, 1) := by decide +kernel
theorem dX12_in_58 : decode cX12_in 58 = .ok (.iconst 1, 1) := by decide +kernel
theorem dX12_in_59 : decode cX12_in 59 = .ok (.if_icmp .ne 16, 3) := by decide +kernel
theorem dX12_in_62 : decode cX12_in 62 = .ok (.aload_n 0, 1) := by decide +kernel
theorem dX12_in_63 : decode cX12_in 63 = .ok (.getfield 49, 3) := by decide +kernel
theorem dX12_in_66 : decode cX12_in 66 = .ok (.iconst 3, 1) := by decide +kernel
theorem dX12_in_67 : decode cX12_in 67 = .ok (.iload_n 1, 1) := by decide +kernel
theorem dX12_in_68 : decode cX12_in 68 = .ok (.imul, 1) := by decide +kernel
theorem dX12_in_69 : decode cX12_in 69 = .ok (.iload_n 2, 1) := by decide +kernel
theorem dX12_in_70 : decode cX12_in 70 = .ok (.iadd, 1) := by decide +kernel
theorem dX12_in_71 : decode cX12_in 71 = .ok (.iaload, 1) := by decide +kernel
theorem dX12_in_72 : decode cX12_in 72 = .ok (.goto 8, 3) := by decide +kernel
theorem dX12_in_75 : decode cX12_in 75 = .ok (.aload_n 0, 1) := by decide +kernel
theorem dX12_in_76 : decode cX12_in 76 = .ok (.iload_n 1, 1) := by decide +kernel
theorem dX12_in_77 : decode cX12_in 77 = .ok (.invokevirtual 292, 3) := by decide +kernel
theorem dX12_in_80 : decode cX12_in 80 = .ok (.ireturn, 1) := by decide +kernel
theorem dX12_pumpOf_0 : decode cX12_pumpOf 0 = .ok (.aload_n 0, 1) := by decide +kernel
theorem dX12_pumpOf_1 : decode cX12_pumpOf 1 = .ok (.iload_n 1, 1) := by decide +kernel
theorem dX12_pumpOf_2 : decode cX12_pumpOf 2 = .ok (.invokevirtual 295, 3) := by decide +kernel
theorem dX12_pumpOf_5 : decode cX12_pumpOf 5 = .ok (.ifCond .ne 9, 3) := by decide +kernel
theorem dX12_pumpOf_8 : decode cX12_pumpOf 8 = .ok (.aload_n 0, 1) := by decide +kernel
theorem dX12_pumpOf_9 : decode cX12_pumpOf 9 = .ok (.iconst (-1), 1) := by decide +kernel
theorem dX12_pumpOf_10 : decode cX12_pumpOf 10 = .ok (.invokevirtual 226, 3) := by decide +kernel
theorem dX12_pumpOf_13 : decode cX12_pumpOf 13 = .ok (.ireturn, 1) := by decide +kernel
theorem dX12_pumpOf_14 : decode cX12_pumpOf 14 = .ok (.iload_n 2, 1) := by decide +kernel
theorem dX12_pumpOf_15 : decode cX12_pumpOf 15 = .ok (.i2l, 1) := by decide +kernel
theorem dX12_pumpOf_16 : decode cX12_pumpOf 16 = .ok (.lconst 0, 1) := by decide +kernel
theorem dX12_pumpOf_17 : decode cX12_pumpOf 17 = .ok (.ldc2_w 298, 3) := by decide +kernel
theorem dX12_pumpOf_20 : decode cX12_pumpOf 20 = .ok (.invokestatic 222, 3) := by decide +kernel
theorem dX12_pumpOf_23 : decode cX12_pumpOf 23 = .ok (.ifCond .ne 10, 3) := by decide +kernel
theorem dX12_pumpOf_26 : decode cX12_pumpOf 26 = .ok (.aload_n 0, 1) := by decide +kernel
theorem dX12_pumpOf_27 : decode cX12_pumpOf 27 = .ok (.bipush (-2), 2) := by decide +kernel
theorem dX12_pumpOf_29 : decode cX12_pumpOf 29 = .ok (.invokevirtual 226, 3) := by decide +kernel
theorem dX12_pumpOf_32 : decode cX12_pumpOf 32 = .ok (.ireturn, 1) := by decide +kernel
theorem dX12_pumpOf_33 : decode cX12_pumpOf 33 = .ok (.iload_n 2, 1) := by decide +kernel
theorem dX12_pumpOf_34 : decode cX12_pumpOf 34 = .ok (.ifCond .ne 20, 3) := by decide +kernel
theorem dX12_pumpOf_37 : decode cX12_pumpOf 37 = .ok (.aload_n 0, 1) := by decide +kernel
theorem dX12_pumpOf_38 : decode cX12_pumpOf 38 = .ok (.getfield 65, 3) := by decide +kernel
theorem dX12_pumpOf_41 : decode cX12_pumpOf 41 = .ok (.iload_n 1, 1) := by decide +kernel
theorem dX12_pumpOf_42 : decode cX12_pumpOf 42 = .ok (.baload, 1) := by decide +kernel
theorem dX12_pumpOf_43 : decode cX12_pumpOf 43 = .ok (.ifCond .eq 7, 3) := by decide +kernel
theorem dX12_pumpOf_46 : decode cX12_pumpOf 46 = .ok (.iconst 1, 1) := by decide +kernel
theorem dX12_pumpOf_47 : decode cX12_pumpOf 47 = .ok (.goto 55, 3) := by decide +kernel
theorem dX12_pumpOf_50 : decode cX12_pumpOf 50 = .ok (.iconst 0, 1) := by decide +kernel
theorem dX12_pumpOf_51 : decode cX12_pumpOf 51 = .ok (.goto 51, 3) := by decide +kernel
theorem dX12_pumpOf_54 : decode cX12_pumpOf 54 = .ok (.iload_n 2, 1) := by decide +kernel
theorem dX12_pumpOf_55 : decode cX12_pumpOf 55 = .ok (.iconst 4, 1) := by decide +kernel
theorem dX12_pumpOf_56 : decode cX12_pumpOf 56 = .ok (.if_icmp .ne 20, 3) := by decide +kernel
theorem dX12_pumpOf_59 : decode cX12_pumpOf 59 = .ok (.aload_n 0, 1) := by decide +kernel
theorem dX12_pumpOf_60 : decode cX12_pumpOf 60 = .ok (.getfield 68, 3) := by decide +kernel
theorem dX12_pumpOf_63 : decode cX12_pumpOf 63 = .ok (.iload_n 1, 1) := by decide +kernel
theorem dX12_pumpOf_64 : decode cX12_pumpOf 64 = .ok (.baload, 1) := by decide +kernel
theorem dX12_pumpOf_65 : decode cX12_pumpOf 65 = .ok (.ifCond .eq 7, 3) := by decide +kernel
theorem dX12_pumpOf_68 : decode cX12_pumpOf 68 = .ok (.iconst 1, 1) := by decide +kernel
theorem dX12_pumpOf_69 : decode cX12_pumpOf 69 = .ok (.goto 33, 3) := by decide +kernel
theorem dX12_pumpOf_72 : decode cX12_pumpOf 72 = .ok (.iconst 0, 1) := by decide +kernel
theorem dX12_pumpOf_73 : decode cX12_pumpOf 73 = .ok (.goto 29, 3) := by decide +kernel
theorem dX12_pumpOf_76 : decode cX12_pumpOf 76 = .ok (.iload_n 2, 1) := by decide +kernel
theorem dX12_pumpOf_77 : decode cX12_pumpOf 77 = .ok (.iconst 5, 1) := by decide +kernel
theorem dX12_pumpOf_78 : decode cX12_pumpOf 78 = .ok (.if_icmp .ne 12, 3) := by decide +kernel
theorem dX12_pumpOf_81 : decode cX12_pumpOf 81 = .ok (.aload_n 0, 1) := by decide +kernel
theorem dX12_pumpOf_82 : decode cX12_pumpOf 82 = .ok (.getfield 40, 3) := by decide +kernel
theorem dX12_pumpOf_85 : decode cX12_pumpOf 85 = .ok (.iload_n 1, 1) := by decide +kernel
theorem dX12_pumpOf_86 : decode cX12_pumpOf 86 = .ok (.iaload, 1) := by decide +kernel
theorem dX12_pumpOf_87 : decode cX12_pumpOf 87 = .ok (.goto 15, 3) := by decide +kernel
theorem dX12_pumpOf_90 : decode cX12_pumpOf 90 = .ok (.aload_n 0, 1) := by decide +kernel
theorem dX12_pumpOf_91 : decode cX12_pumpOf 91 = .ok (.getfield 52, 3) := by decide +kernel
theorem dX12_pumpOf_94 : decode cX12_pumpOf 94 = .ok (.iconst 3, 1) := by decide +kernel
theorem dX12_pumpOf_95 : decode cX12_pumpOf 95 = .ok (.iload_n 1, 1) := by decide +kernel
theorem dX12_pumpOf_96 : decode cX12_pumpOf 96 = .ok (.imul, 1) := by decide +kernel
theorem dX12_pumpOf_97 : decode cX12_pumpOf 97 = .ok (.iload_n 2, 1) := by decide +kernel
theorem dX12_pumpOf_98 : decode cX12_pumpOf 98 = .ok (.iadd, 1) := by decide +kernel
theorem dX12_pumpOf_99 : decode cX12_pumpOf 99 = .ok (.iconst 1, 1) := by decide +kernel
theorem dX12_pumpOf_100 : decode cX12_pumpOf 100 = .ok (.isub, 1) := by decide +kernel
theorem dX12_pumpOf_101 : decode cX12_pumpOf 101 = .ok (.iaload, 1) := by decide +kernel
theorem dX12_pumpOf_102 : decode cX12_pumpOf 102 = .ok (.ireturn, 1) := by decide +kernel
theorem dX12_all_0 : decode cX12_all 0 = .ok (.iload_n 1, 1) := by decide +kernel
theorem dX12_all_1 : decode cX12_all 1 = .ok (.invokestatic 244, 3) := by decide +kernel
theorem dX12_all_4 : decode cX12_all 4 = .ok (.ifCond .ne 9, 3) := by decide +kernel
theorem dX12_all_7 : decode cX12_all 7 = .ok (.aload_n 0, 1) := by decide +kernel
theorem dX12_all_8 : decode cX12_all 8 = .ok (.iconst (-1), 1) := by decide +kernel
theorem dX12_all_9 : decode cX12_all 9 = .ok (.invokevirtual 226, 3) := by decide +kernel
theorem dX12_all_12 : decode cX12_all 12 = .ok (.ireturn, 1) := by decide +kernel
theorem dX12_all_13 : decode cX12_all 13 = .ok (.iload_n 2, 1) := by decide +kernel
theorem dX12_all_14 : decode cX12_all 14 = .ok (.i2l, 1) := by decide +kernel
theorem dX12_all_15 : decode cX12_all 15 = .ok (.lconst 0, 1) := by decide +kernel
theorem dX12_all_16 : decode cX12_all 16 = .ok (.ldc2_w 300, 3) := by decide +kernel
theorem dX12_all_19 : decode cX12_all 19 = .ok (.invokestatic 222, 3) := by decide +kernel
theorem dX12_all_22 : decode cX12_all 22 = .ok (.ifCond .ne 10, 3) := by decide +kernel
theorem dX12_all_25 : decode cX12_all 25 = .ok (.aload_n 0, 1) := by decide +kernel
theorem dX12_all_26 : decode cX12_all 26 = .ok (.bipush (-2), 2) := by decide +kernel
theorem dX12_all_28 : decode cX12_all 28 = .ok (.invokevirtual 226, 3) := by decide +kernel
theorem dX12_all_31 : decode cX12_all 31 = .ok (.ireturn, 1) := by decide +kernel
theorem dX12_all_32 : decode cX12_all 32 = .ok (.iload_n 2, 1) := by decide +kernel
theorem dX12_all_33 : decode cX12_all 33 = .ok (.iconst 2, 1) := by decide +kernel
theorem dX12_all_34 : decode cX12_all 34 = .ok (.if_icmp .ge 23, 3) := by decide +kernel
theorem dX12_all_37 : decode cX12_all 37 = .ok (.iload_n 2, 1) := by decide +kernel
theorem dX12_all_38 : decode cX12_all 38 = .ok (.ifCond .ne 12, 3) := by decide +kernel
theorem dX12_all_41 : decode cX12_all 41 = .ok (.aload_n 0, 1) := by decide +kernel
theorem dX12_all_42 : decode cX12_all 42 = .ok (.getfield 55, 3) := by decide +kernel
theorem dX12_all_45 : decode cX12_all 45 = .ok (.iload_n 1, 1) := by decide +kernel
theorem dX12_all_46 : decode cX12_all 46 = .ok (.iaload, 1) := by decide +kernel
theorem dX12_all_47 : decode cX12_all 47 = .ok (.goto 9, 3) := by decide +kernel
theorem dX12_all_50 : decode cX12_all 50 = .ok (.aload_n 0, 1) := by decide +kernel
theorem dX12_all_51 : decode cX12_all 51 = .ok (.getfield 58, 3) := by decide +kernel
theorem dX12_all_54 : decode cX12_all 54 = .ok (.iload_n 1, 1) := by decide +kernel
theorem dX12_all_55 : decode cX12_all 55 = .ok (.iaload, 1) := by decide +kernel
theorem dX12_all_56 : decode cX12_all 56 = .ok (.ireturn, 1) := by decide +kernel
theorem dX12_all_57 : decode cX12_all 57 = .ok (.iconst 0, 1) := by decide +kernel
theorem dX12_all_58 : decode cX12_all 58 = .ok (.istore_n 3, 1) := by decide +kernel
theorem dX12_all_59 : decode cX12_all 59 = .ok (.iconst 0, 1) := by decide +kernel
theorem dX12_all_60 : decode cX12_all 60 = .ok (.istore 4, 2) := by decide +kernel
theorem dX12_all_62 : decode cX12_all 62 = .ok (.iload 4, 2) := by decide +kernel
theorem dX12_all_64 : decode cX12_all 64 = .ok (.aload_n 0, 1) := by decide +kernel
theorem dX12_all_65 : decode cX12_all 65 = .ok (.getfield 210, 3) := by decide +kernel
theorem dX12_all_68 : decode cX12_all 68 = .ok (.if_icmp .ge 47, 3) := by decide +kernel
theorem dX12_all_71 : decode cX12_all 71 = .ok (.iload_n 2, 1) := by decide +kernel
theorem dX12_all_72 : decode cX12_all 72 = .ok (.iconst 4, 1) := by decide +kernel
theorem dX12_all_73 : decode cX12_all 73 = .ok (.if_icmp .ge 42, 3) := by decide +kernel
theorem dX12_all_76 : decode cX12_all 76 = .ok (.iload_n 3, 1) := by decide +kernel
theorem dX12_all_77 : decode cX12_all 77 = .ok (.iload_n 2, 1) := by decide +kernel
theorem dX12_all_78 : decode cX12_all 78 = .ok (.iconst 2, 1) := by decide +kernel
theorem dX12_all_79 : decode cX12_all 79 = .ok (.if_icmp .ne 17, 3) := by decide +kernel
theorem dX12_all_82 : decode cX12_all 82 = .ok (.aload_n 0, 1) := by decide +kernel
theorem dX12_all_83 : decode cX12_all 83 = .ok (.getfield 46, 3) := by decide +kernel
theorem dX12_all_86 : decode cX12_all 86 = .ok (.iconst 3, 1) := by decide +kernel
theorem dX12_all_87 : decode cX12_all 87 = .ok (.iload 4, 2) := by decide +kernel
theorem dX12_all_89 : decode cX12_all 89 = .ok (.imul, 1) := by decide +kernel
theorem dX12_all_90 : decode cX12_all 90 = .ok (.iload_n 1, 1) := by decide +kernel
theorem dX12_all_91 : decode cX12_all 91 = .ok (.iadd, 1) := by decide +kernel
theorem dX12_all_92 : decode cX12_all 92 = .ok (.iaload, 1) := by decide +kernel
theorem dX12_all_93 : decode cX12_all 93 = .ok (.goto 14, 3) := by decide +kernel
theorem dX12_all_96 : decode cX12_all 96 = .ok (.aload_n 0, 1) := by decide +kernel
theorem dX12_all_97 : decode cX12_all 97 = .ok (.getfield 49, 3) := by decide +kernel
theorem dX12_all_100 : decode cX12_all 100 = .ok (.iconst 3, 1) := by decide +kernel
theorem dX12_all_101 : decode cX12_all 101 = .ok (.iload 4, 2) := by decide +kernel
theorem dX12_all_103 : decode cX12_all 103 = .ok (.imul, 1) := by decide +kernel
theorem dX12_all_104 : decode cX12_all 104 = .ok (.iload_n 1, 1) := by decide +kernel
theorem dX12_all_105 : decode cX12_all 105 = .ok (.iadd, 1) := by decide +kernel
theorem dX12_all_106 : decode cX12_all 106 = .ok (.iaload, 1) := by decide +kernel
theorem dX12_all_107 : decode cX12_all 107 = .ok (.iadd, 1) := by decide +kernel
theorem dX12_all_108 : decode cX12_all 108 = .ok (.istore_n 3, 1) := by decide +kernel
theorem dX12_all_109 : decode cX12_all 109 = .ok (.iinc 4 1, 3) := by decide +kernel
theorem dX12_all_112 : decode cX12_all 112 = .ok (.goto (-50), 3) := by decide +kernel
theorem dX12_all_115 : decode cX12_all 115 = .ok (.iconst 0, 1) := by decide +kernel
theorem dX12_all_116 : decode cX12_all 116 = .ok (.istore 4, 2) := by decide +kernel
theorem dX12_all_118 : decode cX12_all 118 = .ok (.iload 4, 2) := by decide +kernel
theorem dX12_all_120 : decode cX12_all 120 = .ok (.aload_n 0, 1) := by decide +kernel
theorem dX12_all_121 : decode cX12_all 121 = .ok (.getfield 217, 3) := by decide +kernel
theorem dX12_all_124 : decode cX12_all 124 = .ok (.if_icmp .ge 42, 3) := by decide +kernel
theorem dX12_all_127 : decode cX12_all 127 = .ok (.iload_n 2, 1) := by decide +kernel
theorem dX12_all_128 : decode cX12_all 128 = .ok (.iconst 4, 1) := by decide +kernel
theorem dX12_all_129 : decode cX12_all 129 = .ok (.if_icmp .ne 37, 3) := by decide +kernel
theorem dX12_all_132 : decode cX12_all 132 = .ok (.iload_n 3, 1) := by decide +kernel
theorem dX12_all_133 : decode cX12_all 133 = .ok (.aload_n 0, 1) := by decide +kernel
theorem dX12_all_134 : decode cX12_all 134 = .ok (.getfield 40, 3) := by decide +kernel
theorem dX12_all_137 : decode cX12_all 137 = .ok (.iload 4, 2) := by decide +kernel
theorem dX12_all_139 : decode cX12_all 139 = .ok (.iaload, 1) := by decide +kernel
theorem dX12_all_140 : decode cX12_all 140 = .ok (.ifCond .le 17, 3) := by decide +kernel
theorem dX12_all_143 : decode cX12_all 143 = .ok (.aload_n 0, 1) := by decide +kernel
theorem dX12_all_144 : decode cX12_all 144 = .ok (.getfield 52, 3) := by decide +kernel
theorem dX12_all_147 : decode cX12_all 147 = .ok (.iconst 3, 1) := by decide +kernel
theorem dX12_all_148 : decode cX12_all 148 = .ok (.iload 4, 2) := by decide +kernel
theorem dX12_all_150 : decode cX12_all 150 = .ok (.imul, 1) := by decide +kernel
theorem dX12_all_151 : decode cX12_all 151 = .ok (.iload_n 1, 1) := by decide +kernel
theorem dX12_all_152 : decode cX12_all 152 = .ok (.iadd, 1) := by decide +kernel
theorem dX12_all_153 : decode cX12_all 153 = .ok (.iaload, 1) := by decide +kernel
theorem dX12_all_154 : decode cX12_all 154 = .ok (.goto 4, 3) := by decide +kernel
theorem dX12_all_157 : decode cX12_all 157 = .ok (.iconst 0, 1) := by decide +kernel
theorem dX12_all_158 : decode cX12_all 158 = .ok (.iadd, 1) := by decide +kernel
theorem dX12_all_159 : decode cX12_all 159 = .ok (.istore_n 3, 1) := by decide +kernel
theorem dX12_all_160 : decode cX12_all 160 = .ok (.iinc 4 1, 3) := by decide +kernel
theorem dX12_all_163 : decode cX12_all 163 = .ok (.goto (-45), 3) := by decide +kernel
theorem dX12_all_166 : decode cX12_all 166 = .ok (.iload_n 3, 1) := by decide +kernel
theorem dX12_all_167 : decode cX12_all 167 = .ok (.ireturn, 1) := by decide +kernel
theorem dX12_copies_0 : decode cX12_copies 0 = .ok (.iconst 0, 1) := by decide +kernel
theorem dX12_copies_1 : decode cX12_copies 1 = .ok (.istore_n 2, 1) := by decide +kernel
theorem dX12_copies_2 : decode cX12_copies 2 = .ok (.iload_n 2, 1) := by decide +kernel
theorem dX12_copies_3 : decode cX12_copies 3 = .ok (.bipush 15, 2) := by decide +kernel
theorem dX12_copies_5 : decode cX12_copies 5 = .ok (.if_icmp .ge 71, 3) := by decide +kernel
theorem dX12_copies_8 : decode cX12_copies 8 = .ok (.iload_n 1, 1) := by decide +kernel
theorem dX12_copies_9 : decode cX12_copies 9 = .ok (.ifCond .eq 18, 3) := by decide +kernel
theorem dX12_copies_12 : decode cX12_copies 12 = .ok (.aload_n 0, 1) := by decide +kernel
theorem dX12_copies_13 : decode cX12_copies 13 = .ok (.getfield 77, 3) := by decide +kernel
theorem dX12_copies_16 : decode cX12_copies 16 = .ok (.iload_n 2, 1) := by decide +kernel
theorem dX12_copies_17 : decode cX12_copies 17 = .ok (.aload_n 0, 1) := by decide +kernel
theorem dX12_copies_18 : decode cX12_copies 18 = .ok (.getfield 46, 3) := by decide +kernel
theorem dX12_copies_21 : decode cX12_copies 21 = .ok (.iload_n 2, 1) := by decide +kernel
theorem dX12_copies_22 : decode cX12_copies 22 = .ok (.iaload, 1) := by decide +kernel
theorem dX12_copies_23 : decode cX12_copies 23 = .ok (.iastore, 1) := by decide +kernel
theorem dX12_copies_24 : decode cX12_copies 24 = .ok (.goto 15, 3) := by decide +kernel
theorem dX12_copies_27 : decode cX12_copies 27 = .ok (.aload_n 0, 1) := by decide +kernel
theorem dX12_copies_28 : decode cX12_copies 28 = .ok (.getfield 46, 3) := by decide +kernel
theorem dX12_copies_31 : decode cX12_copies 31 = .ok (.iload_n 2, 1) := by decide +kernel
theorem dX12_copies_32 : decode cX12_copies 32 = .ok (.aload_n 0, 1) := by decide +kernel
theorem dX12_copies_33 : decode cX12_copies 33 = .ok (.getfield 77, 3) := by decide +kernel
theorem dX12_copies_36 : decode cX12_copies 36 = .ok (.iload_n 2, 1) := by decide +kernel
theorem dX12_copies_37 : decode cX12_copies 37 = .ok (.iaload, 1) := by decide +kernel
theorem dX12_copies_38 : decode cX12_copies 38 = .ok (.iastore, 1) := by decide +kernel
theorem dX12_copies_39 : decode cX12_copies 39 = .ok (.iload_n 1, 1) := by decide +kernel
theorem dX12_copies_40 : decode cX12_copies 40 = .ok (.ifCond .eq 18, 3) := by decide +kernel
theorem dX12_copies_43 : decode cX12_copies 43 = .ok (.aload_n 0, 1) := by decide +kernel
theorem dX12_copies_44 : decode cX12_copies 44 = .ok (.getfield 80, 3) := by decide +kernel
theorem dX12_copies_47 : decode cX12_copies 47 = .ok (.iload_n 2, 1) := by decide +kernel
theorem dX12_copies_48 : decode cX12_copies 48 = .ok (.aload_n 0, 1) := by decide +kernel
theorem dX12_copies_49 : decode cX12_copies 49 = .ok (.getfield 49, 3) := by decide +kernel
theorem dX12_copies_52 : decode cX12_copies 52 = .ok (.iload_n 2, 1) := by decide +kernel
theorem dX12_copies_53 : decode cX12_copies 53 = .ok (.iaload, 1) := by decide +kernel
theorem dX12_copies_54 : decode cX12_copies 54 = .ok (.iastore, 1) := by decide +kernel
theorem dX12_copies_55 : decode cX12_copies 55 = .ok (.goto 15, 3) := by decide +kernel
theorem dX12_copies_58 : decode cX12_copies 58 = .ok (.aload_n 0, 1) := by decide +kernel
theorem dX12_copies_59 : decode cX12_copies 59 = .ok (.getfield 49, 3) := by decide +kernel
theorem dX12_copies_62 : decode cX12_copies 62 = .ok (.iload_n 2, 1) := by decide +kernel
theorem dX12_copies_63 : decode cX12_copies 63 = .ok (.aload_n 0, 1) := by decide +kernel
theorem dX12_copies_64 : decode cX12_copies 64 = .ok (.getfield 80, 3) := by decide +kernel
theorem dX12_copies_67 : decode cX12_copies 67 = .ok (.iload_n 2, 1) := by decide +kernel
theorem dX12_copies_68 : decode cX12_copies 68 = .ok (.iaload, 1) := by decide +kernel
theorem dX12_copies_69 : decode cX12_copies 69 = .ok (.iastore, 1) := by decide +kernel
theorem dX12_copies_70 : decode cX12_copies 70 = .ok (.iinc 2 1, 3) := by decide +kernel
theorem dX12_copies_73 : decode cX12_copies 73 = .ok (.goto (-71), 3) := by decide +kernel
theorem dX12_copies_76 : decode cX12_copies 76 = .ok (.iconst 0, 1) := by decide +kernel
theorem dX12_copies_77 : decode cX12_copies 77 = .ok (.istore_n 2, 1) := by decide +kernel
theorem dX12_copies_78 : decode cX12_copies 78 = .ok (.iload_n 2, 1) := by decide +kernel
theorem dX12_copies_79 : decode cX12_copies 79 = .ok (.bipush 24, 2) := by decide +kernel
theorem dX12_copies_81 : decode cX12_copies 81 = .ok (.if_icmp .ge 40, 3) := by decide +kernel
theorem dX12_copies_84 : decode cX12_copies 84 = .ok (.iload_n 1, 1) := by decide +kernel
theorem dX12_copies_85 : decode cX12_copies 85 = .ok (.ifCond .eq 18, 3) := by decide +kernel
theorem dX12_copies_88 : decode cX12_copies 88 = .ok (.aload_n 0, 1) := by decide +kernel
theorem dX12_copies_89 : decode cX12_copies 89 = .ok (.getfield 83, 3) := by decide +kernel
theorem dX12_copies_92 : decode cX12_copies 92 = .ok (.iload_n 2, 1) := by decide +kernel
theorem dX12_copies_93 : decode cX12_copies 93 = .ok (.aload_n 0, 1) := by decide +kernel
theorem dX12_copies_94 : decode cX12_copies 94 = .ok (.getfield 52, 3) := by decide +kernel
theorem dX12_copies_97 : decode cX12_copies 97 = .ok (.iload_n 2, 1) := by decide +kernel
theorem dX12_copies_98 : decode cX12_copies 98 = .ok (.iaload, 1) := by decide +kernel
theorem dX12_copies_99 : decode cX12_copies 99 = .ok (.iastore, 1) := by decide +kernel
theorem dX12_copies_100 : decode cX12_copies 100 = .ok (.goto 15, 3) := by decide +kernel
theorem dX12_copies_103 : decode cX12_copies 103 = .ok (.aload_n 0, 1) := by decide +kernel
theorem dX12_copies_104 : decode cX12_copies 104 = .ok (.getfield 52, 3) := by decide +kernel
theorem dX12_copies_107 : decode cX12_copies 107 = .ok (.iload_n 2, 1) := by decide +kernel
theorem dX12_copies_108 : decode cX12_copies 108 = .ok (.aload_n 0, 1) := by decide +kernel
theorem dX12_copies_109 : decode cX12_copies 109 = .ok (.getfield 83, 3) := by decide +kernel
theorem dX12_copies_112 : decode cX12_copies 112 = .ok (.iload_n 2, 1) := by decide +kernel
theorem dX12_copies_113 : decode cX12_copies 113 = .ok (.iaload, 1) := by decide +kernel
theorem dX12_copies_114 : decode cX12_copies 114 = .ok (.iastore, 1) := by decide +kernel
theorem dX12_copies_115 : decode cX12_copies 115 = .ok (.iinc 2 1, 3) := by decide +kernel
theorem dX12_copies_118 : decode cX12_copies 118 = .ok (.goto (-40), 3) := by decide +kernel
theorem dX12_copies_121 : decode cX12_copies 121 = .ok (.iconst 0, 1) := by decide +kernel
theorem dX12_copies_122 : decode cX12_copies 122 = .ok (.istore_n 2, 1) := by decide +kernel
theorem dX12_copies_123 : decode cX12_copies 123 = .ok (.iload_n 2, 1) := by decide +kernel
theorem dX12_copies_124 : decode cX12_copies 124 = .ok (.iconst 3, 1) := by decide +kernel
theorem dX12_copies_125 : decode cX12_copies 125 = .ok (.if_icmp .ge 71, 3) := by decide +kernel
theorem dX12_copies_128 : decode cX12_copies 128 = .ok (.iload_n 1, 1) := by decide +kernel
theorem dX12_copies_129 : decode cX12_copies 129 = .ok (.ifCond .eq 18, 3) := by decide +kernel
theorem dX12_copies_132 : decode cX12_copies 132 = .ok (.aload_n 0, 1) := by decide +kernel
theorem dX12_copies_133 : decode cX12_copies 133 = .ok (.getfield 86, 3) := by decide +kernel
theorem dX12_copies_136 : decode cX12_copies 136 = .ok (.iload_n 2, 1) := by decide +kernel
theorem dX12_copies_137 : decode cX12_copies 137 = .ok (.aload_n 0, 1) := by decide +kernel
theorem dX12_copies_138 : decode cX12_copies 138 = .ok (.getfield 55, 3) := by decide +kernel
theorem dX12_copies_141 : decode cX12_copies 141 = .ok (.iload_n 2, 1) := by decide +kernel
theorem dX12_copies_142 : decode cX12_copies 142 = .ok (.iaload, 1) := by decide +kernel
theorem dX12_copies_143 : decode cX12_copies 143 = .ok (.iastore, 1) := by decide +kernel
theorem dX12_copies_144 : decode cX12_copies 144 = .ok (.goto 15, 3) := by decide +kernel
theorem dX12_copies_147 : decode cX12_copies 147 = .ok (.aload_n 0, 1) := by decide +kernel
theorem dX12_copies_148 : decode cX12_copies 148 = .ok (.getfield 55, 3) := by decide +kernel
theorem dX12_copies_151 : decode cX12_copies 151 = .ok (.iload_n 2, 1) := by decide +kernel
theorem dX12_copies_152 : decode cX12_copies 152 = .ok (.aload_n 0, 1) := by decide +kernel
theorem dX12_copies_153 : decode cX12_copies 153 = .ok (.getfield 86, 3) := by decide +kernel
theorem dX12_copies_156 : decode cX12_copies 156 = .ok (.iload_n 2, 1) := by decide +kernel
theorem dX12_copies_157 : decode cX12_copies 157 = .ok (.iaload, 1) := by decide +kernel
theorem dX12_copies_158 : decode cX12_copies 158 = .ok (.iastore, 1) := by decide +kernel
theorem dX12_copies_159 : decode cX12_copies 159 = .ok (.iload_n 1, 1) := by decide +kernel
theorem dX12_copies_160 : decode cX12_copies 160 = .ok (.ifCond .eq 18, 3) := by decide +kernel
theorem dX12_copies_163 : decode cX12_copies 163 = .ok (.aload_n 0, 1) := by decide +kernel
theorem dX12_copies_164 : decode cX12_copies 164 = .ok (.getfield 89, 3) := by decide +kernel
theorem dX12_copies_167 : decode cX12_copies 167 = .ok (.iload_n 2, 1) := by decide +kernel
theorem dX12_copies_168 : decode cX12_copies 168 = .ok (.aload_n 0, 1) := by decide +kernel
theorem dX12_copies_169 : decode cX12_copies 169 = .ok (.getfield 58, 3) := by decide +kernel
theorem dX12_copies_172 : decode cX12_copies 172 = .ok (.iload_n 2, 1) := by decide +kernel
theorem dX12_copies_173 : decode cX12_copies 173 = .ok (.iaload, 1) := by decide +kernel
theorem dX12_copies_174 : decode cX12_copies 174 = .ok (.iastore, 1) := by decide +kernel
theorem dX12_copies_175 : decode cX12_copies 175 = .ok (.goto 15, 3) := by decide +kernel
theorem dX12_copies_178 : decode cX12_copies 178 = .ok (.aload_n 0, 1) := by decide +kernel
theorem dX12_copies_179 : decode cX12_copies 179 = .ok (.getfield 58, 3) := by decide +kernel
theorem dX12_copies_182 : decode cX12_copies 182 = .ok (.iload_n 2, 1) := by decide +kernel
theorem dX12_copies_183 : decode cX12_copies 183 = .ok (.aload_n 0, 1) := by decide +kernel
theorem dX12_copies_184 : decode cX12_copies 184 = .ok (.getfield 89, 3) := by decide +kernel
theorem dX12_copies_187 : decode cX12_copies 187 = .ok (.iload_n 2, 1) := by decide +kernel
theorem dX12_copies_188 : decode cX12_copies 188 = .ok (.iaload, 1) := by decide +kernel
theorem dX12_copies_189 : decode cX12_copies 189 = .ok (.iastore, 1) := by decide +kernel
theorem dX12_copies_190 : decode cX12_copies 190 = .ok (.iinc 2 1, 3) := by decide +kernel
theorem dX12_copies_193 : decode cX12_copies 193 = .ok (.goto (-70), 3) := by decide +kernel
theorem dX12_copies_196 : decode cX12_copies 196 = .ok (.iconst 0, 1) := by decide +kernel
theorem dX12_copies_197 : decode cX12_copies 197 = .ok (.istore_n 2, 1) := by decide +kernel
theorem dX12_copies_198 : decode cX12_copies 198 = .ok (.iload_n 2, 1) := by decide +kernel
theorem dX12_copies_199 : decode cX12_copies 199 = .ok (.bipush 8, 2) := by decide +kernel
theorem dX12_copies_201 : decode cX12_copies 201 = .ok (.if_icmp .ge 40, 3) := by decide +kernel
theorem dX12_copies_204 : decode cX12_copies 204 = .ok (.iload_n 1, 1) := by decide +kernel
theorem dX12_copies_205 : decode cX12_copies 205 = .ok (.ifCond .eq 18, 3) := by decide +kernel
theorem dX12_copies_208 : decode cX12_copies 208 = .ok (.aload_n 0, 1) := by decide +kernel
theorem dX12_copies_209 : decode cX12_copies 209 = .ok (.getfield 92, 3) := by decide +kernel
theorem dX12_copies_212 : decode cX12_copies 212 = .ok (.iload_n 2, 1) := by decide +kernel
theorem dX12_copies_213 : decode cX12_copies 213 = .ok (.aload_n 0, 1) := by decide +kernel
theorem dX12_copies_214 : decode cX12_copies 214 = .ok (.getfield 68, 3) := by decide +kernel
theorem dX12_copies_217 : decode cX12_copies 217 = .ok (.iload_n 2, 1) := by decide +kernel
theorem dX12_copies_218 : decode cX12_copies 218 = .ok (.baload, 1) := by decide +kernel
theorem dX12_copies_219 : decode cX12_copies 219 = .ok (.bastore, 1) := by decide +kernel
theorem dX12_copies_220 : decode cX12_copies 220 = .ok (.goto 15, 3) := by decide +kernel
theorem dX12_copies_223 : decode cX12_copies 223 = .ok (.aload_n 0, 1) := by decide +kernel
theorem dX12_copies_224 : decode cX12_copies 224 = .ok (.getfield 68, 3) := by decide +kernel
theorem dX12_copies_227 : decode cX12_copies 227 = .ok (.iload_n 2, 1) := by decide +kernel
theorem dX12_copies_228 : decode cX12_copies 228 = .ok (.aload_n 0, 1) := by decide +kernel
theorem dX12_copies_229 : decode cX12_copies 229 = .ok (.getfield 92, 3) := by decide +kernel
theorem dX12_copies_232 : decode cX12_copies 232 = .ok (.iload_n 2, 1) := by decide +kernel
theorem dX12_copies_233 : decode cX12_copies 233 = .ok (.baload, 1) := by decide +kernel
theorem dX12_copies_234 : decode cX12_copies 234 = .ok (.bastore, 1) := by decide +kernel
theorem dX12_copies_235 : decode cX12_copies 235 = .ok (.iinc 2 1, 3) := by decide +kernel
theorem dX12_copies_238 : decode cX12_copies 238 = .ok (.goto (-40), 3) := by decide +kernel
theorem dX12_copies_241 : decode cX12_copies 241 = .ok (.return_, 1) := by decide +kernel
theorem dX12_when_0 : decode cX12_when 0 = .ok (.aload_n 0, 1) := by decide +kernel
theorem dX12_when_1 : decode cX12_when 1 = .ok (.iload_n 1, 1) := by decide +kernel
theorem dX12_when_2 : decode cX12_when 2 = .ok (.invokevirtual 238, 3) := by decide +kernel
theorem dX12_when_5 : decode cX12_when 5 = .ok (.ifCond .ne 9, 3) := by decide +kernel
theorem dX12_when_8 : decode cX12_when 8 = .ok (.aload_n 0, 1) := by decide +kernel
theorem dX12_when_9 : decode cX12_when 9 = .ok (.iconst (-1), 1) := by decide +kernel
theorem dX12_when_10 : decode cX12_when 10 = .ok (.invokevirtual 226, 3) := by decide +kernel
theorem dX12_when_13 : decode cX12_when 13 = .ok (.ireturn, 1) := by decide +kernel
theorem dX12_when_14 : decode cX12_when 14 = .ok (.iload_n 2, 1) := by decide +kernel
theorem dX12_when_15 : decode cX12_when 15 = .ok (.ifCond .lt 8, 3) := by decide +kernel
theorem dX12_when_18 : decode cX12_when 18 = .ok (.iload_n 3, 1) := by decide +kernel
theorem dX12_when_19 : decode cX12_when 19 = .ok (.iconst 1, 1) := by decide +kernel
theorem dX12_when_20 : decode cX12_when 20 = .ok (.if_icmp .ge 8, 3) := by decide +kernel
theorem dX12_when_23 : decode cX12_when 23 = .ok (.bipush (-4), 2) := by decide +kernel
theorem dX12_when_25 : decode cX12_when 25 = .ok (.goto 22, 3) := by decide +kernel
theorem dX12_when_28 : decode cX12_when 28 = .ok (.iload_n 2, 1) := by decide +kernel
theorem dX12_when_29 : decode cX12_when 29 = .ok (.ldc 249, 2) := by decide +kernel
theorem dX12_when_31 : decode cX12_when 31 = .ok (.if_icmp .gt 10, 3) := by decide +kernel
theorem dX12_when_34 : decode cX12_when 34 = .ok (.iload_n 3, 1) := by decide +kernel
theorem dX12_when_35 : decode cX12_when 35 = .ok (.sipush 300, 3) := by decide +kernel
theorem dX12_when_38 : decode cX12_when 38 = .ok (.if_icmp .le 8, 3) := by decide +kernel
theorem dX12_when_41 : decode cX12_when 41 = .ok (.bipush (-6), 2) := by decide +kernel
theorem dX12_when_43 : decode cX12_when 43 = .ok (.goto 4, 3) := by decide +kernel
theorem dX12_when_46 : decode cX12_when 46 = .ok (.iconst 0, 1) := by decide +kernel
theorem dX12_when_47 : decode cX12_when 47 = .ok (.istore 4, 2) := by decide +kernel
theorem dX12_when_49 : decode cX12_when 49 = .ok (.iload 4, 2) := by decide +kernel
theorem dX12_when_51 : decode cX12_when 51 = .ok (.ifCond .eq 10, 3) := by decide +kernel
theorem dX12_when_54 : decode cX12_when 54 = .ok (.aload_n 0, 1) := by decide +kernel
theorem dX12_when_55 : decode cX12_when 55 = .ok (.iload 4, 2) := by decide +kernel
theorem dX12_when_57 : decode cX12_when 57 = .ok (.invokevirtual 226, 3) := by decide +kernel
theorem dX12_when_60 : decode cX12_when 60 = .ok (.ireturn, 1) := by decide +kernel
theorem dX12_when_61 : decode cX12_when 61 = .ok (.aload_n 0, 1) := by decide +kernel
theorem dX12_when_62 : decode cX12_when 62 = .ok (.iconst 1, 1) := by decide +kernel
theorem dX12_when_63 : decode cX12_when 63 = .ok (.invokevirtual 302, 3) := by decide +kernel
theorem dX12_when_66 : decode cX12_when 66 = .ok (.aload_n 0, 1) := by decide +kernel
theorem dX12_when_67 : decode cX12_when 67 = .ok (.getfield 280, 3) := by decide +kernel
theorem dX12_when_70 : decode cX12_when 70 = .ok (.istore 5, 2) := by decide +kernel
theorem dX12_when_72 : decode cX12_when 72 = .ok (.bipush (-9), 2) := by decide +kernel
theorem dX12_when_74 : decode cX12_when 74 = .ok (.istore 6, 2) := by decide +kernel
theorem dX12_when_76 : decode cX12_when 76 = .ok (.iconst 0, 1) := by decide +kernel
theorem dX12_when_77 : decode cX12_when 77 = .ok (.istore 7, 2) := by decide +kernel
theorem dX12_when_79 : decode cX12_when 79 = .ok (.iload 7, 2) := by decide +kernel
theorem dX12_when_81 : decode cX12_when 81 = .ok (.iload_n 3, 1) := by decide +kernel
theorem dX12_when_82 : decode cX12_when 82 = .ok (.if_icmp .ge 43, 3) := by decide +kernel
theorem dX12_when_85 : decode cX12_when 85 = .ok (.aload_n 0, 1) := by decide +kernel
theorem dX12_when_86 : decode cX12_when 86 = .ok (.getfield 280, 3) := by decide +kernel
theorem dX12_when_89 : decode cX12_when 89 = .ok (.sipush 5000, 3) := by decide +kernel
theorem dX12_when_92 : decode cX12_when 92 = .ok (.if_icmp .ge 33, 3) := by decide +kernel
theorem dX12_when_95 : decode cX12_when 95 = .ok (.iload 6, 2) := by decide +kernel
theorem dX12_when_97 : decode cX12_when 97 = .ok (.ifCond .ge 28, 3) := by decide +kernel
theorem dX12_when_100 : decode cX12_when 100 = .ok (.aload_n 0, 1) := by decide +kernel
theorem dX12_when_101 : decode cX12_when 101 = .ok (.invokevirtual 283, 3) := by decide +kernel
theorem dX12_when_104 : decode cX12_when 104 = .ok (.aload_n 0, 1) := by decide +kernel
theorem dX12_when_105 : decode cX12_when 105 = .ok (.iload_n 1, 1) := by decide +kernel
theorem dX12_when_106 : decode cX12_when 106 = .ok (.invokevirtual 292, 3) := by decide +kernel
theorem dX12_when_109 : decode cX12_when 109 = .ok (.iload_n 2, 1) := by decide +kernel
theorem dX12_when_110 : decode cX12_when 110 = .ok (.if_icmp .ge 9, 3) := by decide +kernel
theorem dX12_when_113 : decode cX12_when 113 = .ok (.aload_n 0, 1) := by decide +kernel
theorem dX12_when_114 : decode cX12_when 114 = .ok (.getfield 280, 3) := by decide +kernel
theorem dX12_when_117 : decode cX12_when 117 = .ok (.istore 6, 2) := by decide +kernel
theorem dX12_when_119 : decode cX12_when 119 = .ok (.iinc 7 1, 3) := by decide +kernel
theorem dX12_when_122 : decode cX12_when 122 = .ok (.goto (-43), 3) := by decide +kernel
theorem dX12_when_125 : decode cX12_when 125 = .ok (.aload_n 0, 1) := by decide +kernel
theorem dX12_when_126 : decode cX12_when 126 = .ok (.iload 5, 2) := by decide +kernel
theorem dX12_when_128 : decode cX12_when 128 = .ok (.putfield 280, 3) := by decide +kernel
theorem dX12_when_131 : decode cX12_when 131 = .ok (.aload_n 0, 1) := by decide +kernel
theorem dX12_when_132 : decode cX12_when 132 = .ok (.iconst 0, 1) := by decide +kernel
theorem dX12_when_133 : decode cX12_when 133 = .ok (.invokevirtual 302, 3) := by decide +kernel
theorem dX12_when_136 : decode cX12_when 136 = .ok (.iload 6, 2) := by decide +kernel
theorem dX12_when_138 : decode cX12_when 138 = .ok (.ireturn, 1) := by decide +kernel
theorem dX12_feed_0 : decode cX12_feed 0 = .ok (.iload_n 1, 1) := by decide +kernel
theorem dX12_feed_1 : decode cX12_feed 1 = .ok (.i2l, 1) := by decide +kernel
theorem dX12_feed_2 : decode cX12_feed 2 = .ok (.lconst 1, 1) := by decide +kernel
theorem dX12_feed_3 : decode cX12_feed 3 = .ok (.ldc2_w 306, 3) := by decide +kernel
theorem dX12_feed_6 : decode cX12_feed 6 = .ok (.invokestatic 232, 3) := by decide +kernel
theorem dX12_feed_9 : decode cX12_feed 9 = .ok (.istore 4, 2) := by decide +kernel
theorem dX12_feed_11 : decode cX12_feed 11 = .ok (.iload 4, 2) := by decide +kernel
theorem dX12_feed_13 : decode cX12_feed 13 = .ok (.ifCond .ne 18, 3) := by decide +kernel
theorem dX12_feed_16 : decode cX12_feed 16 = .ok (.aload_n 0, 1) := by decide +kernel
theorem dX12_feed_17 : decode cX12_feed 17 = .ok (.getfield 308, 3) := by decide +kernel
theorem dX12_feed_20 : decode cX12_feed 20 = .ok (.iload_n 1, 1) := by decide +kernel
theorem dX12_feed_21 : decode cX12_feed 21 = .ok (.iadd, 1) := by decide +kernel
theorem dX12_feed_22 : decode cX12_feed 22 = .ok (.bipush 40, 2) := by decide +kernel
theorem dX12_feed_24 : decode cX12_feed 24 = .ok (.if_icmp .le 7, 3) := by decide +kernel
theorem dX12_feed_27 : decode cX12_feed 27 = .ok (.bipush (-6), 2) := by decide +kernel
theorem dX12_feed_29 : decode cX12_feed 29 = .ok (.istore 4, 2) := by decide +kernel
theorem dX12_feed_31 : decode cX12_feed 31 = .ok (.iload 4, 2) := by decide +kernel
theorem dX12_feed_33 : decode cX12_feed 33 = .ok (.ifCond .eq 10, 3) := by decide +kernel
theorem dX12_feed_36 : decode cX12_feed 36 = .ok (.aload_n 0, 1) := by decide +kernel
theorem dX12_feed_37 : decode cX12_feed 37 = .ok (.iload 4, 2) := by decide +kernel
theorem dX12_feed_39 : decode cX12_feed 39 = .ok (.invokevirtual 226, 3) := by decide +kernel
theorem dX12_feed_42 : decode cX12_feed 42 = .ok (.ireturn, 1) := by decide +kernel
theorem dX12_feed_43 : decode cX12_feed 43 = .ok (.iconst 0, 1) := by decide +kernel
theorem dX12_feed_44 : decode cX12_feed 44 = .ok (.istore 5, 2) := by decide +kernel
theorem dX12_feed_46 : decode cX12_feed 46 = .ok (.iload 5, 2) := by decide +kernel
theorem dX12_feed_48 : decode cX12_feed 48 = .ok (.iload_n 1, 1) := by decide +kernel
theorem dX12_feed_49 : decode cX12_feed 49 = .ok (.if_icmp .ge 40, 3) := by decide +kernel
theorem dX12_feed_52 : decode cX12_feed 52 = .ok (.aload_n 0, 1) := by decide +kernel
theorem dX12_feed_53 : decode cX12_feed 53 = .ok (.getfield 95, 3) := by decide +kernel
theorem dX12_feed_56 : decode cX12_feed 56 = .ok (.aload_n 0, 1) := by decide +kernel
theorem dX12_feed_57 : decode cX12_feed 57 = .ok (.getfield 308, 3) := by decide +kernel
theorem dX12_feed_60 : decode cX12_feed 60 = .ok (.lload_n 2, 1) := by decide +kernel
theorem dX12_feed_61 : decode cX12_feed 61 = .ok (.bipush 8, 2) := by decide +kernel
theorem dX12_feed_63 : decode cX12_feed 63 = .ok (.iload 5, 2) := by decide +kernel
theorem dX12_feed_65 : decode cX12_feed 65 = .ok (.imul, 1) := by decide +kernel
theorem dX12_feed_66 : decode cX12_feed 66 = .ok (.lshr, 1) := by decide +kernel
theorem dX12_feed_67 : decode cX12_feed 67 = .ok (.ldc2_w 311, 3) := by decide +kernel
theorem dX12_feed_70 : decode cX12_feed 70 = .ok (.land, 1) := by decide +kernel
theorem dX12_feed_71 : decode cX12_feed 71 = .ok (.l2i, 1) := by decide +kernel
theorem dX12_feed_72 : decode cX12_feed 72 = .ok (.iastore, 1) := by decide +kernel
theorem dX12_feed_73 : decode cX12_feed 73 = .ok (.aload_n 0, 1) := by decide +kernel
theorem dX12_feed_74 : decode cX12_feed 74 = .ok (.dup, 1) := by decide +kernel
theorem dX12_feed_75 : decode cX12_feed 75 = .ok (.getfield 308, 3) := by decide +kernel
theorem dX12_feed_78 : decode cX12_feed 78 = .ok (.iconst 1, 1) := by decide +kernel
theorem dX12_feed_79 : decode cX12_feed 79 = .ok (.iadd, 1) := by decide +kernel
theorem dX12_feed_80 : decode cX12_feed 80 = .ok (.putfield 308, 3) := by decide +kernel
theorem dX12_feed_83 : decode cX12_feed 83 = .ok (.iinc 5 1, 3) := by decide +kernel
theorem dX12_feed_86 : decode cX12_feed 86 = .ok (.goto (-40), 3) := by decide +kernel
theorem dX12_feed_89 : decode cX12_feed 89 = .ok (.aload_n 0, 1) := by decide +kernel
theorem dX12_feed_90 : decode cX12_feed 90 = .ok (.getfield 308, 3) := by decide +kernel
theorem dX12_feed_93 : decode cX12_feed 93 = .ok (.ireturn, 1) := by decide +kernel
theorem dX12_sign_0 : decode cX12_sign 0 = .ok (.aload_n 0, 1) := by decide +kernel
theorem dX12_sign_1 : decode cX12_sign 1 = .ok (.getfield 313, 3) := by decide +kernel
theorem dX12_sign_4 : decode cX12_sign 4 = .ok (.aload_n 0, 1) := by decide +kernel
theorem dX12_sign_5 : decode cX12_sign 5 = .ok (.getfield 308, 3) := by decide +kernel
theorem dX12_sign_8 : decode cX12_sign 8 = .ok (.if_icmp .ge 15, 3) := by decide +kernel
theorem dX12_sign_11 : decode cX12_sign 11 = .ok (.aload_n 0, 1) := by decide +kernel
theorem dX12_sign_12 : decode cX12_sign 12 = .ok (.getfield 95, 3) := by decide +kernel
theorem dX12_sign_15 : decode cX12_sign 15 = .ok (.aload_n 0, 1) := by decide +kernel
theorem dX12_sign_16 : decode cX12_sign 16 = .ok (.getfield 313, 3) := by decide +kernel
theorem dX12_sign_19 : decode cX12_sign 19 = .ok (.iaload, 1) := by decide +kernel
theorem dX12_sign_20 : decode cX12_sign 20 = .ok (.goto 4, 3) := by decide +kernel
theorem dX12_sign_23 : decode cX12_sign 23 = .ok (.iconst (-1), 1) := by decide +kernel
theorem dX12_sign_24 : decode cX12_sign 24 = .ok (.ireturn, 1) := by decide +kernel
theorem dX12_isDigit_0 : decode cX12_isDigit 0 = .ok (.iload_n 0, 1) := by decide +kernel
theorem dX12_isDigit_1 : decode cX12_isDigit 1 = .ok (.bipush 48, 2) := by decide +kernel
theorem dX12_isDigit_3 : decode cX12_isDigit 3 = .ok (.if_icmp .lt 13, 3) := by decide +kernel
theorem dX12_isDigit_6 : decode cX12_isDigit 6 = .ok (.iload_n 0, 1) := by decide +kernel
theorem dX12_isDigit_7 : decode cX12_isDigit 7 = .ok (.bipush 57, 2) := by decide +kernel
theorem dX12_isDigit_9 : decode cX12_isDigit 9 = .ok (.if_icmp .gt 7, 3) := by decide +kernel
theorem dX12_isDigit_12 : decode cX12_isDigit 12 = .ok (.iconst 1, 1) := by decide +kernel
theorem dX12_isDigit_13 : decode cX12_isDigit 13 = .ok (.goto 4, 3) := by decide +kernel
theorem dX12_isDigit_16 : decode cX12_isDigit 16 = .ok (.iconst 0, 1) := by decide +kernel
theorem dX12_isDigit_17 : decode cX12_isDigit 17 = .ok (.ireturn, 1) := by decide +kernel
theorem dX12_digit_0 : decode cX12_digit 0 = .ok (.aload_n 0, 1) := by decide +kernel
theorem dX12_digit_1 : decode cX12_digit 1 = .ok (.invokevirtual 316, 3) := by decide +kernel
theorem dX12_digit_4 : decode cX12_digit 4 = .ok (.invokestatic 320, 3) := by decide +kernel
theorem dX12_digit_7 : decode cX12_digit 7 = .ok (.ifCond .ne 5, 3) := by decide +kernel
theorem dX12_digit_10 : decode cX12_digit 10 = .ok (.iconst 0, 1) := by decide +kernel
theorem dX12_digit_11 : decode cX12_digit 11 = .ok (.ireturn, 1) := by decide +kernel
theorem dX12_digit_12 : decode cX12_digit 12 = .ok (.aload_n 0, 1) := by decide +kernel
theorem dX12_digit_13 : decode cX12_digit 13 = .ok (.dup, 1) := by decide +kernel
theorem dX12_digit_14 : decode cX12_digit 14 = .ok (.getfield 313, 3) := by decide +kernel
theorem dX12_digit_17 : decode cX12_digit 17 = .ok (.iconst 1, 1) := by decide +kernel
theorem dX12_digit_18 : decode cX12_digit 18 = .ok (.iadd, 1) := by decide +kernel
theorem dX12_digit_19 : decode cX12_digit 19 = .ok (.putfield 313, 3) := by decide +kernel
theorem dX12_digit_22 : decode cX12_digit 22 = .ok (.iconst 1, 1) := by decide +kernel
theorem dX12_digit_23 : decode cX12_digit 23 = .ok (.ireturn, 1) := by decide +kernel
theorem dX12_compares_0 : decode cX12_compares 0 = .ok (.aload_n 0, 1) := by decide +kernel
theorem dX12_compares_1 : decode cX12_compares 1 = .ok (.invokevirtual 316, 3) := by decide +kernel
theorem dX12_compares_4 : decode cX12_compares 4 = .ok (.istore_n 1, 1) := by decide +kernel
theorem dX12_compares_5 : decode cX12_compares 5 = .ok (.iload_n 1, 1) := by decide +kernel
theorem dX12_compares_6 : decode cX12_compares 6 = .ok (.bipush 116, 2) := by decide +kernel
theorem dX12_compares_8 : decode cX12_compares 8 = .ok (.if_icmp .eq 29, 3) := by decide +kernel
theorem dX12_compares_11 : decode cX12_compares 11 = .ok (.iload_n 1, 1) := by decide +kernel
theorem dX12_compares_12 : decode cX12_compares 12 = .ok (.bipush 114, 2) := by decide +kernel
theorem dX12_compares_14 : decode cX12_compares 14 = .ok (.if_icmp .eq 23, 3) := by decide +kernel
theorem dX12_compares_17 : decode cX12_compares 17 = .ok (.iload_n 1, 1) := by decide +kernel
theorem dX12_compares_18 : decode cX12_compares 18 = .ok (.bipush 119, 2) := by decide +kernel
theorem dX12_compares_20 : decode cX12_compares 20 = .ok (.if_icmp .eq 17, 3) := by decide +kernel
theorem dX12_compares_23 : decode cX12_compares 23 = .ok (.iload_n 1, 1) := by decide +kernel
theorem dX12_compares_24 : decode cX12_compares 24 = .ok (.bipush 118, 2) := by decide +kernel
theorem dX12_compares_26 : decode cX12_compares 26 = .ok (.if_icmp .eq 11, 3) := by decide +kernel
theorem dX12_compares_29 : decode cX12_compares 29 = .ok (.iload_n 1, 1) := by decide +kernel
theorem dX12_compares_30 : decode cX12_compares 30 = .ok (.bipush 112, 2) := by decide +kernel
theorem dX12_compares_32 : decode cX12_compares 32 = .ok (.if_icmp .eq 5, 3) := by decide +kernel
theorem dX12_compares_35 : decode cX12_compares 35 = .ok (.iconst 0, 1) := by decide +kernel
theorem dX12_compares_36 : decode cX12_compares 36 = .ok (.ireturn, 1) := by decide +kernel
theorem dX12_compares_37 : decode cX12_compares 37 = .ok (.aload_n 0, 1) := by decide +kernel
theorem dX12_compares_38 : decode cX12_compares 38 = .ok (.dup, 1) := by decide +kernel
theorem dX12_compares_39 : decode cX12_compares 39 = .ok (.getfield 313, 3) := by decide +kernel
theorem dX12_compares_42 : decode cX12_compares 42 = .ok (.iconst 1, 1) := by decide +kernel
theorem dX12_compares_43 : decode cX12_compares 43 = .ok (.iadd, 1) := by decide +kernel
theorem dX12_compares_44 : decode cX12_compares 44 = .ok (.putfield 313, 3) := by decide +kernel
theorem dX12_compares_47 : decode cX12_compares 47 = .ok (.iload_n 1, 1) := by decide +kernel
theorem dX12_compares_48 : decode cX12_compares 48 = .ok (.bipush 116, 2) := by decide +kernel
theorem dX12_compares_50 : decode cX12_compares 50 = .ok (.if_icmp .eq 12, 3) := by decide +kernel
theorem dX12_compares_53 : decode cX12_compares 53 = .ok (.aload_n 0, 1) := by decide +kernel
theorem dX12_compares_54 : decode cX12_compares 54 = .ok (.invokevirtual 323, 3) := by decide +kernel
theorem dX12_compares_57 : decode cX12_compares 57 = .ok (.ifCond .ne 5, 3) := by decide +kernel
theorem dX12_compares_60 : decode cX12_compares 60 = .ok (.iconst 0, 1) := by decide +kernel
theorem dX12_compares_61 : decode cX12_compares 61 = .ok (.ireturn, 1) := by decide +kernel
theorem dX12_compares_62 : decode cX12_compares 62 = .ok (.aload_n 0, 1) := by decide +kernel
theorem dX12_compares_63 : decode cX12_compares 63 = .ok (.invokevirtual 316, 3) := by decide +kernel
theorem dX12_compares_66 : decode cX12_compares 66 = .ok (.bipush 60, 2) := by decide +kernel
theorem dX12_compares_68 : decode cX12_compares 68 = .ok (.if_icmp .eq 23, 3) := by decide +kernel
theorem dX12_compares_71 : decode cX12_compares 71 = .ok (.aload_n 0, 1) := by decide +kernel
theorem dX12_compares_72 : decode cX12_compares 72 = .ok (.invokevirtual 316, 3) := by decide +kernel
theorem dX12_compares_75 : decode cX12_compares 75 = .ok (.bipush 61, 2) := by decide +kernel
theorem dX12_compares_77 : decode cX12_compares 77 = .ok (.if_icmp .eq 14, 3) := by decide +kernel
theorem dX12_compares_80 : decode cX12_compares 80 = .ok (.aload_n 0, 1) := by decide +kernel
theorem dX12_compares_81 : decode cX12_compares 81 = .ok (.invokevirtual 316, 3) := by decide +kernel
theorem dX12_compares_84 : decode cX12_compares 84 = .ok (.bipush 62, 2) := by decide +kernel
theorem dX12_compares_86 : decode cX12_compares 86 = .ok (.if_icmp .eq 5, 3) := by decide +kernel
theorem dX12_compares_89 : decode cX12_compares 89 = .ok (.iconst 0, 1) := by decide +kernel
theorem dX12_compares_90 : decode cX12_compares 90 = .ok (.ireturn, 1) := by decide +kernel
theorem dX12_compares_91 : decode cX12_compares 91 = .ok (.aload_n 0, 1) := by decide +kernel
theorem dX12_compares_92 : decode cX12_compares 92 = .ok (.dup, 1) := by decide +kernel
theorem dX12_compares_93 : decode cX12_compares 93 = .ok (.getfield 313, 3) := by decide +kernel
theorem dX12_compares_96 : decode cX12_compares 96 = .ok (.iconst 1, 1) := by decide +kernel
theorem dX12_compares_97 : decode cX12_compares 97 = .ok (.iadd, 1) := by decide +kernel
theorem dX12_compares_98 : decode cX12_compares 98 = .ok (.putfield 313, 3) := by decide +kernel
theorem dX12_compares_101 : decode cX12_compares 101 = .ok (.aload_n 0, 1) := by decide +kernel
theorem dX12_compares_102 : decode cX12_compares 102 = .ok (.invokevirtual 323, 3) := by decide +kernel
theorem dX12_compares_105 : decode cX12_compares 105 = .ok (.ifCond .ne 5, 3) := by decide +kernel
theorem dX12_compares_108 : decode cX12_compares 108 = .ok (.iconst 0, 1) := by decide +kernel
theorem dX12_compares_109 : decode cX12_compares 109 = .ok (.ireturn, 1) := by decide +kernel
theorem dX12_compares_110 : decode cX12_compares 110 = .ok (.iconst 1, 1) := by decide +kernel
theorem dX12_compares_111 : decode cX12_compares 111 = .ok (.istore_n 2, 1) := by decide +kernel
theorem dX12_compares_112 : decode cX12_compares 112 = .ok (.iload_n 2, 1) := by decide +kernel
theorem dX12_compares_113 : decode cX12_compares 113 = .ok (.iconst 5, 1) := by decide +kernel
theorem dX12_compares_114 : decode cX12_compares 114 = .ok (.if_icmp .ge 29, 3) := by decide +kernel
theorem dX12_compares_117 : decode cX12_compares 117 = .ok (.aload_n 0, 1) := by decide +kernel
theorem dX12_compares_118 : decode cX12_compares 118 = .ok (.invokevirtual 316, 3) := by decide +kernel
theorem dX12_compares_121 : decode cX12_compares 121 = .ok (.invokestatic 320, 3) := by decide +kernel
theorem dX12_compares_124 : decode cX12_compares 124 = .ok (.ifCond .eq 19, 3) := by decide +kernel
theorem dX12_compares_127 : decode cX12_compares 127 = .ok (.aload_n 0, 1) := by decide +kernel
theorem dX12_compares_128 : decode cX12_compares 128 = .ok (.dup, 1) := by decide +kernel
theorem dX12_compares_129 : decode cX12_compares 129 = .ok (.getfield 313, 3) := by decide +kernel
theorem dX12_compares_132 : decode cX12_compares 132 = .ok (.iconst 1, 1) := by decide +kernel
theorem dX12_compares_133 : decode cX12_compares 133 = .ok (.iadd, 1) := by decide +kernel
theorem dX12_compares_134 : decode cX12_compares 134 = .ok (.putfield 313, 3) := by decide +kernel
theorem dX12_compares_137 : decode cX12_compares 137 = .ok (.iinc 2 1, 3) := by decide +kernel
theorem dX12_compares_140 : decode cX12_compares 140 = .ok (.goto (-28), 3) := by decide +kernel
theorem dX12_compares_143 : decode cX12_compares 143 = .ok (.iconst 1, 1) := by decide +kernel
theorem dX12_compares_144 : decode cX12_compares 144 = .ok (.ireturn, 1) := by decide +kernel
theorem dX12_closes_0 : decode cX12_closes 0 = .ok (.aload_n 0, 1) := by decide +kernel
theorem dX12_closes_1 : decode cX12_closes 1 = .ok (.getfield 327, 3) := by decide +kernel
theorem dX12_closes_4 : decode cX12_closes 4 = .ok (.ifCond .le 31, 3) := by decide +kernel
theorem dX12_closes_7 : decode cX12_closes 7 = .ok (.aload_n 0, 1) := by decide +kernel
theorem dX12_closes_8 : decode cX12_closes 8 = .ok (.getfield 104, 3) := by decide +kernel
theorem dX12_closes_11 : decode cX12_closes 11 = .ok (.aload_n 0, 1) := by decide +kernel
theorem dX12_closes_12 : decode cX12_closes 12 = .ok (.getfield 327, 3) := by decide +kernel
theorem dX12_closes_15 : decode cX12_closes 15 = .ok (.iconst 1, 1) := by decide +kernel
theorem dX12_closes_16 : decode cX12_closes 16 = .ok (.isub, 1) := by decide +kernel
theorem dX12_closes_17 : decode cX12_closes 17 = .ok (.iaload, 1) := by decide +kernel
theorem dX12_closes_18 : decode cX12_closes 18 = .ok (.iconst 1, 1) := by decide +kernel
theorem dX12_closes_19 : decode cX12_closes 19 = .ok (.if_icmp .ne 16, 3) := by decide +kernel
theorem dX12_closes_22 : decode cX12_closes 22 = .ok (.aload_n 0, 1) := by decide +kernel
theorem dX12_closes_23 : decode cX12_closes 23 = .ok (.dup, 1) := by decide +kernel
theorem dX12_closes_24 : decode cX12_closes 24 = .ok (.getfield 327, 3) := by decide +kernel
theorem dX12_closes_27 : decode cX12_closes 27 = .ok (.iconst 1, 1) := by decide +kernel
theorem dX12_closes_28 : decode cX12_closes 28 = .ok (.isub, 1) := by decide +kernel
theorem dX12_closes_29 : decode cX12_closes 29 = .ok (.putfield 327, 3) := by decide +kernel
theorem dX12_closes_32 : decode cX12_closes 32 = .ok (.goto (-32), 3) := by decide +kernel
theorem dX12_closes_35 : decode cX12_closes 35 = .ok (.return_, 1) := by decide +kernel
theorem dX12_parses_0 : decode cX12_parses 0 = .ok (.aload_n 0, 1) := by decide +kernel
theorem dX12_parses_1 : decode cX12_parses 1 = .ok (.iconst 0, 1) := by decide +kernel
theorem dX12_parses_2 : decode cX12_parses 2 = .ok (.putfield 313, 3) := by decide +kernel
theorem dX12_parses_5 : decode cX12_parses 5 = .ok (.aload_n 0, 1) := by decide +kernel
theorem dX12_parses_6 : decode cX12_parses 6 = .ok (.iconst 0, 1) := by decide +kernel
theorem dX12_parses_7 : decode cX12_parses 7 = .ok (.putfield 327, 3) := by decide +kernel
theorem dX12_parses_10 : decode cX12_parses 10 = .ok (.aload_n 0, 1) := by decide +kernel
theorem dX12_parses_11 : decode cX12_parses 11 = .ok (.invokevirtual 316, 3) := by decide +kernel
theorem dX12_parses_14 : decode cX12_parses 14 = .ok (.bipush 86, 2) := by decide +kernel
theorem dX12_parses_16 : decode cX12_parses 16 = .ok (.if_icmp .eq 14, 3) := by decide +kernel
theorem dX12_parses_19 : decode cX12_parses 19 = .ok (.aload_n 0, 1) := by decide +kernel
theorem dX12_parses_20 : decode cX12_parses 20 = .ok (.invokevirtual 316, 3) := by decide +kernel
theorem dX12_parses_23 : decode cX12_parses 23 = .ok (.bipush 80, 2) := by decide +kernel
theorem dX12_parses_25 : decode cX12_parses 25 = .ok (.if_icmp .eq 5, 3) := by decide +kernel
theorem dX12_parses_28 : decode cX12_parses 28 = .ok (.iconst 0, 1) := by decide +kernel
theorem dX12_parses_29 : decode cX12_parses 29 = .ok (.ireturn, 1) := by decide +kernel
theorem dX12_parses_30 : decode cX12_parses 30 = .ok (.aload_n 0, 1) := by decide +kernel
theorem dX12_parses_31 : decode cX12_parses 31 = .ok (.dup, 1) := by decide +kernel
theorem dX12_parses_32 : decode cX12_parses 32 = .ok (.getfield 313, 3) := by decide +kernel
theorem dX12_parses_35 : decode cX12_parses 35 = .ok (.iconst 1, 1) := by decide +kernel
theorem dX12_parses_36 : decode cX12_parses 36 = .ok (.iadd, 1) := by decide +kernel
theorem dX12_parses_37 : decode cX12_parses 37 = .ok (.putfield 313, 3) := by decide +kernel
theorem dX12_parses_40 : decode cX12_parses 40 = .ok (.aload_n 0, 1) := by decide +kernel
theorem dX12_parses_41 : decode cX12_parses 41 = .ok (.invokevirtual 323, 3) := by decide +kernel
theorem dX12_parses_44 : decode cX12_parses 44 = .ok (.ifCond .eq 12, 3) := by decide +kernel
theorem dX12_parses_47 : decode cX12_parses 47 = .ok (.aload_n 0, 1) := by decide +kernel
theorem dX12_parses_48 : decode cX12_parses 48 = .ok (.invokevirtual 316, 3) := by decide +kernel
theorem dX12_parses_51 : decode cX12_parses 51 = .ok (.bipush 58, 2) := by decide +kernel
theorem dX12_parses_53 : decode cX12_parses 53 = .ok (.if_icmp .eq 5, 3) := by decide +kernel
theorem dX12_parses_56 : decode cX12_parses 56 = .ok (.iconst 0, 1) := by decide +kernel
theorem dX12_parses_57 : decode cX12_parses 57 = .ok (.ireturn, 1) := by decide +kernel
theorem dX12_parses_58 : decode cX12_parses 58 = .ok (.aload_n 0, 1) := by decide +kernel
theorem dX12_parses_59 : decode cX12_parses 59 = .ok (.dup, 1) := by decide +kernel
theorem dX12_parses_60 : decode cX12_parses 60 = .ok (.getfield 313, 3) := by decide +kernel
theorem dX12_parses_63 : decode cX12_parses 63 = .ok (.iconst 1, 1) := by decide +kernel
theorem dX12_parses_64 : decode cX12_parses 64 = .ok (.iadd, 1) := by decide +kernel
theorem dX12_parses_65 : decode cX12_parses 65 = .ok (.putfield 313, 3) := by decide +kernel
theorem dX12_parses_68 : decode cX12_parses 68 = .ok (.aload_n 0, 1) := by decide +kernel
theorem dX12_parses_69 : decode cX12_parses 69 = .ok (.invokevirtual 316, 3) := by decide +kernel
theorem dX12_parses_72 : decode cX12_parses 72 = .ok (.bipush 33, 2) := by decide +kernel
theorem dX12_parses_74 : decode cX12_parses 74 = .ok (.if_icmp .eq 12, 3) := by decide +kernel
theorem dX12_parses_77 : decode cX12_parses 77 = .ok (.aload_n 0, 1) := by decide +kernel
theorem dX12_parses_78 : decode cX12_parses 78 = .ok (.invokevirtual 316, 3) := by decide +kernel
theorem dX12_parses_81 : decode cX12_parses 81 = .ok (.bipush 40, 2) := by decide +kernel
theorem dX12_parses_83 : decode cX12_parses 83 = .ok (.if_icmp .ne 59, 3) := by decide +kernel
theorem dX12_parses_86 : decode cX12_parses 86 = .ok (.aload_n 0, 1) := by decide +kernel
theorem dX12_parses_87 : decode cX12_parses 87 = .ok (.getfield 327, 3) := by decide +kernel
theorem dX12_parses_90 : decode cX12_parses 90 = .ok (.iconst 4, 1) := by decide +kernel
theorem dX12_parses_91 : decode cX12_parses 91 = .ok (.if_icmp .ne 5, 3) := by decide +kernel
theorem dX12_parses_94 : decode cX12_parses 94 = .ok (.iconst 0, 1) := by decide +kernel
theorem dX12_parses_95 : decode cX12_parses 95 = .ok (.ireturn, 1) := by decide +kernel
theorem dX12_parses_96 : decode cX12_parses 96 = .ok (.aload_n 0, 1) := by decide +kernel
theorem dX12_parses_97 : decode cX12_parses 97 = .ok (.getfield 104, 3) := by decide +kernel
theorem dX12_parses_100 : decode cX12_parses 100 = .ok (.aload_n 0, 1) := by decide +kernel
theorem dX12_parses_101 : decode cX12_parses 101 = .ok (.getfield 327, 3) := by decide +kernel
theorem dX12_parses_104 : decode cX12_parses 104 = .ok (.aload_n 0, 1) := by decide +kernel
theorem dX12_parses_105 : decode cX12_parses 105 = .ok (.invokevirtual 316, 3) := by decide +kernel
theorem dX12_parses_108 : decode cX12_parses 108 = .ok (.bipush 33, 2) := by decide +kernel
theorem dX12_parses_110 : decode cX12_parses 110 = .ok (.if_icmp .ne 7, 3) := by decide +kernel
theorem dX12_parses_113 : decode cX12_parses 113 = .ok (.iconst 1, 1) := by decide +kernel
theorem dX12_parses_114 : decode cX12_parses 114 = .ok (.goto 4, 3) := by decide +kernel
theorem dX12_parses_117 : decode cX12_parses 117 = .ok (.iconst 2, 1) := by decide +kernel
theorem dX12_parses_118 : decode cX12_parses 118 = .ok (.iastore, 1) := by decide +kernel
theorem dX12_parses_119 : decode cX12_parses 119 = .ok (.aload_n 0, 1) := by decide +kernel
theorem dX12_parses_120 : decode cX12_parses 120 = .ok (.dup, 1) := by decide +kernel
theorem dX12_parses_121 : decode cX12_parses 121 = .ok (.getfield 327, 3) := by decide +kernel
theorem dX12_parses_124 : decode cX12_parses 124 = .ok (.iconst 1, 1) := by decide +kernel
theorem dX12_parses_125 : decode cX12_parses 125 = .ok (.iadd, 1) := by decide +kernel
theorem dX12_parses_126 : decode cX12_parses 126 = .ok (.putfield 327, 3) := by decide +kernel
theorem dX12_parses_129 : decode cX12_parses 129 = .ok (.aload_n 0, 1) := by decide +kernel
theorem dX12_parses_130 : decode cX12_parses 130 = .ok (.dup, 1) := by decide +kernel
theorem dX12_parses_131 : decode cX12_parses 131 = .ok (.getfield 313, 3) := by decide +kernel
theorem dX12_parses_134 : decode cX12_parses 134 = .ok (.iconst 1, 1) := by decide +kernel
theorem dX12_parses_135 : decode cX12_parses 135 = .ok (.iadd, 1) := by decide +kernel
theorem dX12_parses_136 : decode cX12_parses 136 = .ok (.putfield 313, 3) := by decide +kernel
theorem dX12_parses_139 : decode cX12_parses 139 = .ok (.goto (-71), 3) := by decide +kernel
theorem dX12_parses_142 : decode cX12_parses 142 = .ok (.aload_n 0, 1) := by decide +kernel
theorem dX12_parses_143 : decode cX12_parses 143 = .ok (.invokevirtual 330, 3) := by decide +kernel
theorem dX12_parses_146 : decode cX12_parses 146 = .ok (.ifCond .ne 5, 3) := by decide +kernel
theorem dX12_parses_149 : decode cX12_parses 149 = .ok (.iconst 0, 1) := by decide +kernel
theorem dX12_parses_150 : decode cX12_parses 150 = .ok (.ireturn, 1) := by decide +kernel
theorem dX12_parses_151 : decode cX12_parses 151 = .ok (.aload_n 0, 1) := by decide +kernel
theorem dX12_parses_152 : decode cX12_parses 152 = .ok (.invokevirtual 333, 3) := by decide +kernel
theorem dX12_parses_155 : decode cX12_parses 155 = .ok (.aload_n 0, 1) := by decide +kernel
theorem dX12_parses_156 : decode cX12_parses 156 = .ok (.invokevirtual 316, 3) := by decide +kernel
theorem dX12_parses_159 : decode cX12_parses 159 = .ok (.bipush 41, 2) := by decide +kernel
theorem dX12_parses_161 : decode cX12_parses 161 = .ok (.if_icmp .ne 37, 3) := by decide +kernel
theorem dX12_parses_164 : decode cX12_parses 164 = .ok (.aload_n 0, 1) := by decide +kernel
theorem dX12_parses_165 : decode cX12_parses 165 = .ok (.getfield 327, 3) := by decide +kernel
theorem dX12_parses_168 : decode cX12_parses 168 = .ok (.ifCond .le 30, 3) := by decide +kernel
theorem dX12_parses_171 : decode cX12_parses 171 = .ok (.aload_n 0, 1) := by decide +kernel
theorem dX12_parses_172 : decode cX12_parses 172 = .ok (.dup, 1) := by decide +kernel
theorem dX12_parses_173 : decode cX12_parses 173 = .ok (.getfield 313, 3) := by decide +kernel
theorem dX12_parses_176 : decode cX12_parses 176 = .ok (.iconst 1, 1) := by decide +kernel
theorem dX12_parses_177 : decode cX12_parses 177 = .ok (.iadd, 1) := by decide +kernel
theorem dX12_parses_178 : decode cX12_parses 178 = .ok (.putfield 313, 3) := by decide +kernel
theorem dX12_parses_181 : decode cX12_parses 181 = .ok (.aload_n 0, 1) := by decide +kernel
theorem dX12_parses_182 : decode cX12_parses 182 = .ok (.dup, 1) := by decide +kernel
theorem dX12_parses_183 : decode cX12_parses 183 = .ok (.getfield 327, 3) := by decide +kernel
theorem dX12_parses_186 : decode cX12_parses 186 = .ok (.iconst 1, 1) := by decide +kernel
theorem dX12_parses_187 : decode cX12_parses 187 = .ok (.isub, 1) := by decide +kernel
theorem dX12_parses_188 : decode cX12_parses 188 = .ok (.putfield 327, 3) := by decide +kernel
theorem dX12_parses_191 : decode cX12_parses 191 = .ok (.aload_n 0, 1) := by decide +kernel
theorem dX12_parses_192 : decode cX12_parses 192 = .ok (.invokevirtual 333, 3) := by decide +kernel
theorem dX12_parses_195 : decode cX12_parses 195 = .ok (.goto (-40), 3) := by decide +kernel
theorem dX12_parses_198 : decode cX12_parses 198 = .ok (.aload_n 0, 1) := by decide +kernel
theorem dX12_parses_199 : decode cX12_parses 199 = .ok (.invokevirtual 316, 3) := by decide +kernel
theorem dX12_parses_202 : decode cX12_parses 202 = .ok (.iconst (-1), 1) := by decide +kernel
theorem dX12_parses_203 : decode cX12_parses 203 = .ok (.if_icmp .ne 12, 3) := by decide +kernel
theorem dX12_parses_206 : decode cX12_parses 206 = .ok (.aload_n 0, 1) := by decide +kernel
theorem dX12_parses_207 : decode cX12_parses 207 = .ok (.getfield 327, 3) := by decide +kernel
theorem dX12_parses_210 : decode cX12_parses 210 = .ok (.ifCond .ne 5, 3) := by decide +kernel
theorem dX12_parses_213 : decode cX12_parses 213 = .ok (.iconst 1, 1) := by decide +kernel
theorem dX12_parses_214 : decode cX12_parses 214 = .ok (.ireturn, 1) := by decide +kernel
theorem dX12_parses_215 : decode cX12_parses 215 = .ok (.aload_n 0, 1) := by decide +kernel
theorem dX12_parses_216 : decode cX12_parses 216 = .ok (.invokevirtual 316, 3) := by decide +kernel
theorem dX12_parses_219 : decode cX12_parses 219 = .ok (.bipush 124, 2) := by decide +kernel
theorem dX12_parses_221 : decode cX12_parses 221 = .ok (.if_icmp .eq 14, 3) := by decide +kernel
theorem dX12_parses_224 : decode cX12_parses 224 = .ok (.aload_n 0, 1) := by decide +kernel
theorem dX12_parses_225 : decode cX12_parses 225 = .ok (.invokevirtual 316, 3) := by decide +kernel
theorem dX12_parses_228 : decode cX12_parses 228 = .ok (.bipush 38, 2) := by decide +kernel
theorem dX12_parses_230 : decode cX12_parses 230 = .ok (.if_icmp .eq 5, 3) := by decide +kernel
theorem dX12_parses_233 : decode cX12_parses 233 = .ok (.iconst 0, 1) := by decide +kernel
theorem dX12_parses_234 : decode cX12_parses 234 = .ok (.ireturn, 1) := by decide +kernel
theorem dX12_parses_235 : decode cX12_parses 235 = .ok (.aload_n 0, 1) := by decide +kernel
theorem dX12_parses_236 : decode cX12_parses 236 = .ok (.dup, 1) := by decide +kernel
theorem dX12_parses_237 : decode cX12_parses 237 = .ok (.getfield 313, 3) := by decide +kernel
theorem dX12_parses_240 : decode cX12_parses 240 = .ok (.iconst 1, 1) := by decide +kernel
theorem dX12_parses_241 : decode cX12_parses 241 = .ok (.iadd, 1) := by decide +kernel
theorem dX12_parses_242 : decode cX12_parses 242 = .ok (.putfield 313, 3) := by decide +kernel
theorem dX12_parses_245 : decode cX12_parses 245 = .ok (.goto (-177), 3) := by decide +kernel
theorem dX12_rule_0 : decode cX12_rule 0 = .ok (.aload_n 0, 1) := by decide +kernel
theorem dX12_rule_1 : decode cX12_rule 1 = .ok (.getfield 336, 3) := by decide +kernel
theorem dX12_rule_4 : decode cX12_rule 4 = .ok (.bipush 16, 2) := by decide +kernel
theorem dX12_rule_6 : decode cX12_rule 6 = .ok (.if_icmp .ne 10, 3) := by decide +kernel
theorem dX12_rule_9 : decode cX12_rule 9 = .ok (.aload_n 0, 1) := by decide +kernel
theorem dX12_rule_10 : decode cX12_rule 10 = .ok (.bipush (-6), 2) := by decide +kernel
theorem dX12_rule_12 : decode cX12_rule 12 = .ok (.invokevirtual 226, 3) := by decide +kernel
theorem dX12_rule_15 : decode cX12_rule 15 = .ok (.ireturn, 1) := by decide +kernel
theorem dX12_rule_16 : decode cX12_rule 16 = .ok (.aload_n 0, 1) := by decide +kernel
theorem dX12_rule_17 : decode cX12_rule 17 = .ok (.invokevirtual 339, 3) := by decide +kernel
theorem dX12_rule_20 : decode cX12_rule 20 = .ok (.istore_n 1, 1) := by decide +kernel
theorem dX12_rule_21 : decode cX12_rule 21 = .ok (.aload_n 0, 1) := by decide +kernel
theorem dX12_rule_22 : decode cX12_rule 22 = .ok (.getfield 308, 3) := by decide +kernel
theorem dX12_rule_25 : decode cX12_rule 25 = .ok (.istore_n 2, 1) := by decide +kernel
theorem dX12_rule_26 : decode cX12_rule 26 = .ok (.aload_n 0, 1) := by decide +kernel
theorem dX12_rule_27 : decode cX12_rule 27 = .ok (.iconst 0, 1) := by decide +kernel
theorem dX12_rule_28 : decode cX12_rule 28 = .ok (.putfield 308, 3) := by decide +kernel
theorem dX12_rule_31 : decode cX12_rule 31 = .ok (.iload_n 1, 1) := by decide +kernel
theorem dX12_rule_32 : decode cX12_rule 32 = .ok (.ifCond .ne 11, 3) := by decide +kernel
theorem dX12_rule_35 : decode cX12_rule 35 = .ok (.bipush (-20), 2) := by decide +kernel
theorem dX12_rule_37 : decode cX12_rule 37 = .ok (.aload_n 0, 1) := by decide +kernel
theorem dX12_rule_38 : decode cX12_rule 38 = .ok (.getfield 313, 3) := by decide +kernel
theorem dX12_rule_41 : decode cX12_rule 41 = .ok (.isub, 1) := by decide +kernel
theorem dX12_rule_42 : decode cX12_rule 42 = .ok (.ireturn, 1) := by decide +kernel
theorem dX12_rule_43 : decode cX12_rule 43 = .ok (.iconst 0, 1) := by decide +kernel
theorem dX12_rule_44 : decode cX12_rule 44 = .ok (.istore_n 3, 1) := by decide +kernel
theorem dX12_rule_45 : decode cX12_rule 45 = .ok (.iload_n 3, 1) := by decide +kernel
theorem dX12_rule_46 : decode cX12_rule 46 = .ok (.iload_n 2, 1) := by decide +kernel
theorem dX12_rule_47 : decode cX12_rule 47 = .ok (.if_icmp .ge 29, 3) := by decide +kernel
theorem dX12_rule_50 : decode cX12_rule 50 = .ok (.aload_n 0, 1) := by decide +kernel
theorem dX12_rule_51 : decode cX12_rule 51 = .ok (.getfield 98, 3) := by decide +kernel
theorem dX12_rule_54 : decode cX12_rule 54 = .ok (.bipush 40, 2) := by decide +kernel
theorem dX12_rule_56 : decode cX12_rule 56 = .ok (.aload_n 0, 1) := by decide +kernel
theorem dX12_rule_57 : decode cX12_rule 57 = .ok (.getfield 336, 3) := by decide +kernel
theorem dX12_rule_60 : decode cX12_rule 60 = .ok (.imul, 1) := by decide +kernel
theorem dX12_rule_61 : decode cX12_rule 61 = .ok (.iload_n 3, 1) := by decide +kernel
theorem dX12_rule_62 : decode cX12_rule 62 = .ok (.iadd, 1) := by decide +kernel
theorem dX12_rule_63 : decode cX12_rule 63 = .ok (.aload_n 0, 1) := by decide +kernel
theorem dX12_rule_64 : decode cX12_rule 64 = .ok (.getfield 95, 3) := by decide +kernel
theorem dX12_rule_67 : decode cX12_rule 67 = .ok (.iload_n 3, 1) := by decide +kernel
theorem dX12_rule_68 : decode cX12_rule 68 = .ok (.iaload, 1) := by decide +kernel
theorem dX12_rule_69 : decode cX12_rule 69 = .ok (.iastore, 1) := by decide +kernel
theorem dX12_rule_70 : decode cX12_rule 70 = .ok (.iinc 3 1, 3) := by decide +kernel
theorem dX12_rule_73 : decode cX12_rule 73 = .ok (.goto (-28), 3) := by decide +kernel
theorem dX12_rule_76 : decode cX12_rule 76 = .ok (.aload_n 0, 1) := by decide +kernel
theorem dX12_rule_77 : decode cX12_rule 77 = .ok (.getfield 101, 3) := by decide +kernel
theorem dX12_rule_80 : decode cX12_rule 80 = .ok (.aload_n 0, 1) := by decide +kernel
theorem dX12_rule_81 : decode cX12_rule 81 = .ok (.getfield 336, 3) := by decide +kernel
theorem dX12_rule_84 : decode cX12_rule 84 = .ok (.iload_n 2, 1) := by decide +kernel
theorem dX12_rule_85 : decode cX12_rule 85 = .ok (.iastore, 1) := by decide +kernel
theorem dX12_rule_86 : decode cX12_rule 86 = .ok (.aload_n 0, 1) := by decide +kernel
theorem dX12_rule_87 : decode cX12_rule 87 = .ok (.getfield 107, 3) := by decide +kernel
theorem dX12_rule_90 : decode cX12_rule 90 = .ok (.aload_n 0, 1) := by decide +kernel
theorem dX12_rule_91 : decode cX12_rule 91 = .ok (.getfield 336, 3) := by decide +kernel
theorem dX12_rule_94 : decode cX12_rule 94 = .ok (.iconst 0, 1) := by decide +kernel
theorem dX12_rule_95 : decode cX12_rule 95 = .ok (.bastore, 1) := by decide +kernel
theorem dX12_rule_96 : decode cX12_rule 96 = .ok (.aload_n 0, 1) := by decide +kernel
theorem dX12_rule_97 : decode cX12_rule 97 = .ok (.dup, 1) := by decide +kernel
theorem dX12_rule_98 : decode cX12_rule 98 = .ok (.getfield 336, 3) := by decide +kernel
theorem dX12_rule_101 : decode cX12_rule 101 = .ok (.iconst 1, 1) := by decide +kernel
theorem dX12_rule_102 : decode cX12_rule 102 = .ok (.iadd, 1) := by decide +kernel
theorem dX12_rule_103 : decode cX12_rule 103 = .ok (.putfield 336, 3) := by decide +kernel
theorem dX12_rule_106 : decode cX12_rule 106 = .ok (.aload_n 0, 1) := by decide +kernel
theorem dX12_rule_107 : decode cX12_rule 107 = .ok (.getfield 336, 3) := by decide +kernel
theorem dX12_rule_110 : decode cX12_rule 110 = .ok (.iconst 1, 1) := by decide +kernel
theorem dX12_rule_111 : decode cX12_rule 111 = .ok (.isub, 1) := by decide +kernel
theorem dX12_rule_112 : decode cX12_rule 112 = .ok (.ireturn, 1) := by decide +kernel
theorem dX12_unrule_0 : decode cX12_unrule 0 = .ok (.iload_n 1, 1) := by decide +kernel
theorem dX12_unrule_1 : decode cX12_unrule 1 = .ok (.i2l, 1) := by decide +kernel
theorem dX12_unrule_2 : decode cX12_unrule 2 = .ok (.lconst 0, 1) := by decide +kernel
theorem dX12_unrule_3 : decode cX12_unrule 3 = .ok (.aload_n 0, 1) := by decide +kernel
theorem dX12_unrule_4 : decode cX12_unrule 4 = .ok (.getfield 336, 3) := by decide +kernel
theorem dX12_unrule_7 : decode cX12_unrule 7 = .ok (.iconst 1, 1) := by decide +kernel
theorem dX12_unrule_8 : decode cX12_unrule 8 = .ok (.isub, 1) := by decide +kernel
theorem dX12_unrule_9 : decode cX12_unrule 9 = .ok (.i2l, 1) := by decide +kernel
theorem dX12_unrule_10 : decode cX12_unrule 10 = .ok (.invokestatic 222, 3) := by decide +kernel
theorem dX12_unrule_13 : decode cX12_unrule 13 = .ok (.ifCond .eq 12, 3) := by decide +kernel
theorem dX12_unrule_16 : decode cX12_unrule 16 = .ok (.aload_n 0, 1) := by decide +kernel
theorem dX12_unrule_17 : decode cX12_unrule 17 = .ok (.getfield 107, 3) := by decide +kernel
theorem dX12_unrule_20 : decode cX12_unrule 20 = .ok (.iload_n 1, 1) := by decide +kernel
theorem dX12_unrule_21 : decode cX12_unrule 21 = .ok (.baload, 1) := by decide +kernel
theorem dX12_unrule_22 : decode cX12_unrule 22 = .ok (.ifCond .eq 9, 3) := by decide +kernel
theorem dX12_unrule_25 : decode cX12_unrule 25 = .ok (.aload_n 0, 1) := by decide +kernel
theorem dX12_unrule_26 : decode cX12_unrule 26 = .ok (.iconst (-1), 1) := by decide +kernel
theorem dX12_unrule_27 : decode cX12_unrule 27 = .ok (.invokevirtual 226, 3) := by decide +kernel
theorem dX12_unrule_30 : decode cX12_unrule 30 = .ok (.ireturn, 1) := by decide +kernel
theorem dX12_unrule_31 : decode cX12_unrule 31 = .ok (.aload_n 0, 1) := by decide +kernel
theorem dX12_unrule_32 : decode cX12_unrule 32 = .ok (.getfield 107, 3) := by decide +kernel
theorem dX12_unrule_35 : decode cX12_unrule 35 = .ok (.iload_n 1, 1) := by decide +kernel
theorem dX12_unrule_36 : decode cX12_unrule 36 = .ok (.iconst 1, 1) := by decide +kernel
theorem dX12_unrule_37 : decode cX12_unrule 37 = .ok (.bastore, 1) := by decide +kernel
theorem dX12_unrule_38 : decode cX12_unrule 38 = .ok (.iconst 1, 1) := by decide +kernel
theorem dX12_unrule_39 : decode cX12_unrule 39 = .ok (.ireturn, 1) := by decide +kernel
theorem dX12_fact_0 : decode cX12_fact 0 = .ok (.iload_n 1, 1) := by decide +kernel
theorem dX12_fact_1 : decode cX12_fact 1 = .ok (.tableswitch 130 112 119 #[107, 130, 47, 130, 130, 130, 84, 65], 47) := by decide +kernel
theorem dX12_fact_48 : decode cX12_fact 48 = .ok (.aload_n 0, 1) := by decide +kernel
theorem dX12_fact_49 : decode cX12_fact 49 = .ok (.iload_n 2, 1) := by decide +kernel
theorem dX12_fact_50 : decode cX12_fact 50 = .ok (.invokevirtual 238, 3) := by decide +kernel
theorem dX12_fact_53 : decode cX12_fact 53 = .ok (.ifCond .eq 11, 3) := by decide +kernel
theorem dX12_fact_56 : decode cX12_fact 56 = .ok (.aload_n 0, 1) := by decide +kernel
theorem dX12_fact_57 : decode cX12_fact 57 = .ok (.iload_n 2, 1) := by decide +kernel
theorem dX12_fact_58 : decode cX12_fact 58 = .ok (.invokevirtual 292, 3) := by decide +kernel
theorem dX12_fact_61 : decode cX12_fact 61 = .ok (.goto 4, 3) := by decide +kernel
theorem dX12_fact_64 : decode cX12_fact 64 = .ok (.iconst 0, 1) := by decide +kernel
theorem dX12_fact_65 : decode cX12_fact 65 = .ok (.ireturn, 1) := by decide +kernel
theorem dX12_fact_66 : decode cX12_fact 66 = .ok (.aload_n 0, 1) := by decide +kernel
theorem dX12_fact_67 : decode cX12_fact 67 = .ok (.iload_n 2, 1) := by decide +kernel
theorem dX12_fact_68 : decode cX12_fact 68 = .ok (.invokevirtual 238, 3) := by decide +kernel
theorem dX12_fact_71 : decode cX12_fact 71 = .ok (.ifCond .eq 12, 3) := by decide +kernel
theorem dX12_fact_74 : decode cX12_fact 74 = .ok (.aload_n 0, 1) := by decide +kernel
theorem dX12_fact_75 : decode cX12_fact 75 = .ok (.getfield 19, 3) := by decide +kernel
theorem dX12_fact_78 : decode cX12_fact 78 = .ok (.iload_n 2, 1) := by decide +kernel
theorem dX12_fact_79 : decode cX12_fact 79 = .ok (.iaload, 1) := by decide +kernel
theorem dX12_fact_80 : decode cX12_fact 80 = .ok (.goto 4, 3) := by decide +kernel
theorem dX12_fact_83 : decode cX12_fact 83 = .ok (.iconst 0, 1) := by decide +kernel
theorem dX12_fact_84 : decode cX12_fact 84 = .ok (.ireturn, 1) := by decide +kernel
theorem dX12_fact_85 : decode cX12_fact 85 = .ok (.aload_n 0, 1) := by decide +kernel
theorem dX12_fact_86 : decode cX12_fact 86 = .ok (.iload_n 2, 1) := by decide +kernel
theorem dX12_fact_87 : decode cX12_fact 87 = .ok (.invokevirtual 342, 3) := by decide +kernel
theorem dX12_fact_90 : decode cX12_fact 90 = .ok (.ifCond .eq 16, 3) := by decide +kernel
theorem dX12_fact_93 : decode cX12_fact 93 = .ok (.aload_n 0, 1) := by decide +kernel
theorem dX12_fact_94 : decode cX12_fact 94 = .ok (.getfield 61, 3) := by decide +kernel
theorem dX12_fact_97 : decode cX12_fact 97 = .ok (.iload_n 2, 1) := by decide +kernel
theorem dX12_fact_98 : decode cX12_fact 98 = .ok (.baload, 1) := by decide +kernel
theorem dX12_fact_99 : decode cX12_fact 99 = .ok (.ifCond .eq 7, 3) := by decide +kernel
theorem dX12_fact_102 : decode cX12_fact 102 = .ok (.iconst 1, 1) := by decide +kernel
theorem dX12_fact_103 : decode cX12_fact 103 = .ok (.goto 4, 3) := by decide +kernel
theorem dX12_fact_106 : decode cX12_fact 106 = .ok (.iconst 0, 1) := by decide +kernel
theorem dX12_fact_107 : decode cX12_fact 107 = .ok (.ireturn, 1) := by decide +kernel
theorem dX12_fact_108 : decode cX12_fact 108 = .ok (.aload_n 0, 1) := by decide +kernel
theorem dX12_fact_109 : decode cX12_fact 109 = .ok (.iload_n 2, 1) := by decide +kernel
theorem dX12_fact_110 : decode cX12_fact 110 = .ok (.invokevirtual 295, 3) := by decide +kernel
theorem dX12_fact_113 : decode cX12_fact 113 = .ok (.ifCond .eq 16, 3) := by decide +kernel
theorem dX12_fact_116 : decode cX12_fact 116 = .ok (.aload_n 0, 1) := by decide +kernel
theorem dX12_fact_117 : decode cX12_fact 117 = .ok (.getfield 65, 3) := by decide +kernel
theorem dX12_fact_120 : decode cX12_fact 120 = .ok (.iload_n 2, 1) := by decide +kernel
theorem dX12_fact_121 : decode cX12_fact 121 = .ok (.baload, 1) := by decide +kernel
theorem dX12_fact_122 : decode cX12_fact 122 = .ok (.ifCond .eq 7, 3) := by decide +kernel
theorem dX12_fact_125 : decode cX12_fact 125 = .ok (.iconst 1, 1) := by decide +kernel
theorem dX12_fact_126 : decode cX12_fact 126 = .ok (.goto 4, 3) := by decide +kernel
theorem dX12_fact_129 : decode cX12_fact 129 = .ok (.iconst 0, 1) := by decide +kernel
theorem dX12_fact_130 : decode cX12_fact 130 = .ok (.ireturn, 1) := by decide +kernel
theorem dX12_fact_131 : decode cX12_fact 131 = .ok (.aload_n 0, 1) := by decide +kernel
theorem dX12_fact_132 : decode cX12_fact 132 = .ok (.getfield 280, 3) := by decide +kernel
theorem dX12_fact_135 : decode cX12_fact 135 = .ok (.ireturn, 1) := by decide +kernel
theorem dX12_signOf_0 : decode cX12_signOf 0 = .ok (.aload_n 0, 1) := by decide +kernel
theorem dX12_signOf_1 : decode cX12_signOf 1 = .ok (.getfield 345, 3) := by decide +kernel
theorem dX12_signOf_4 : decode cX12_signOf 4 = .ok (.aload_n 0, 1) := by decide +kernel
theorem dX12_signOf_5 : decode cX12_signOf 5 = .ok (.getfield 101, 3) := by decide +kernel
theorem dX12_signOf_8 : decode cX12_signOf 8 = .ok (.iload_n 1, 1) := by decide +kernel
theorem dX12_signOf_9 : decode cX12_signOf 9 = .ok (.iaload, 1) := by decide +kernel
theorem dX12_signOf_10 : decode cX12_signOf 10 = .ok (.if_icmp .ge 20, 3) := by decide +kernel
theorem dX12_signOf_13 : decode cX12_signOf 13 = .ok (.aload_n 0, 1) := by decide +kernel
theorem dX12_signOf_14 : decode cX12_signOf 14 = .ok (.getfield 98, 3) := by decide +kernel
theorem dX12_signOf_17 : decode cX12_signOf 17 = .ok (.bipush 40, 2) := by decide +kernel
theorem dX12_signOf_19 : decode cX12_signOf 19 = .ok (.iload_n 1, 1) := by decide +kernel
theorem dX12_signOf_20 : decode cX12_signOf 20 = .ok (.imul, 1) := by decide +kernel
theorem dX12_signOf_21 : decode cX12_signOf 21 = .ok (.aload_n 0, 1) := by decide +kernel
theorem dX12_signOf_22 : decode cX12_signOf 22 = .ok (.getfield 345, 3) := by decide +kernel
theorem dX12_signOf_25 : decode cX12_signOf 25 = .ok (.iadd, 1) := by decide +kernel
theorem dX12_signOf_26 : decode cX12_signOf 26 = .ok (.iaload, 1) := by decide +kernel
theorem dX12_signOf_27 : decode cX12_signOf 27 = .ok (.goto 4, 3) := by decide +kernel
theorem dX12_signOf_30 : decode cX12_signOf 30 = .ok (.iconst (-1), 1) := by decide +kernel
theorem dX12_signOf_31 : decode cX12_signOf 31 = .ok (.ireturn, 1) := by decide +kernel
theorem dX12_compared_0 : decode cX12_compared 0 = .ok (.aload_n 0, 1) := by decide +kernel
theorem dX12_compared_1 : decode cX12_compared 1 = .ok (.iload_n 1, 1) := by decide +kernel
theorem dX12_compared_2 : decode cX12_compared 2 = .ok (.invokevirtual 348, 3) := by decide +kernel
theorem dX12_compared_5 : decode cX12_compared 5 = .ok (.istore_n 2, 1) := by decide +kernel
theorem dX12_compared_6 : decode cX12_compared 6 = .ok (.aload_n 0, 1) := by decide +kernel
theorem dX12_compared_7 : decode cX12_compared 7 = .ok (.dup, 1) := by decide +kernel
theorem dX12_compared_8 : decode cX12_compared 8 = .ok (.getfield 345, 3) := by decide +kernel
theorem dX12_compared_11 : decode cX12_compared 11 = .ok (.iconst 1, 1) := by decide +kernel
theorem dX12_compared_12 : decode cX12_compared 12 = .ok (.iadd, 1) := by decide +kernel
theorem dX12_compared_13 : decode cX12_compared 13 = .ok (.putfield 345, 3) := by decide +kernel
theorem dX12_compared_16 : decode cX12_compared 16 = .ok (.iconst 0, 1) := by decide +kernel
theorem dX12_compared_17 : decode cX12_compared 17 = .ok (.istore_n 3, 1) := by decide +kernel
theorem dX12_compared_18 : decode cX12_compared 18 = .ok (.iload_n 2, 1) := by decide +kernel
theorem dX12_compared_19 : decode cX12_compared 19 = .ok (.bipush 116, 2) := by decide +kernel
theorem dX12_compared_21 : decode cX12_compared 21 = .ok (.if_icmp .eq 22, 3) := by decide +kernel
theorem dX12_compared_24 : decode cX12_compared 24 = .ok (.aload_n 0, 1) := by decide +kernel
theorem dX12_compared_25 : decode cX12_compared 25 = .ok (.iload_n 1, 1) := by decide +kernel
theorem dX12_compared_26 : decode cX12_compared 26 = .ok (.invokevirtual 348, 3) := by decide +kernel
theorem dX12_compared_29 : decode cX12_compared 29 = .ok (.bipush 48, 2) := by decide +kernel
theorem dX12_compared_31 : decode cX12_compared 31 = .ok (.isub, 1) := by decide +kernel
theorem dX12_compared_32 : decode cX12_compared 32 = .ok (.istore_n 3, 1) := by decide +kernel
theorem dX12_compared_33 : decode cX12_compared 33 = .ok (.aload_n 0, 1) := by decide +kernel
theorem dX12_compared_34 : decode cX12_compared 34 = .ok (.dup, 1) := by decide +kernel
theorem dX12_compared_35 : decode cX12_compared 35 = .ok (.getfield 345, 3) := by decide +kernel
theorem dX12_compared_38 : decode cX12_compared 38 = .ok (.iconst 1, 1) := by decide +kernel
theorem dX12_compared_39 : decode cX12_compared 39 = .ok (.iadd, 1) := by decide +kernel
theorem dX12_compared_40 : decode cX12_compared 40 = .ok (.putfield 345, 3) := by decide +kernel
theorem dX12_compared_43 : decode cX12_compared 43 = .ok (.aload_n 0, 1) := by decide +kernel
theorem dX12_compared_44 : decode cX12_compared 44 = .ok (.iload_n 1, 1) := by decide +kernel
theorem dX12_compared_45 : decode cX12_compared 45 = .ok (.invokevirtual 348, 3) := by decide +kernel
theorem dX12_compared_48 : decode cX12_compared 48 = .ok (.istore 4, 2) := by decide +kernel
theorem dX12_compared_50 : decode cX12_compared 50 = .ok (.aload_n 0, 1) := by decide +kernel
theorem dX12_compared_51 : decode cX12_compared 51 = .ok (.dup, 1) := by decide +kernel
theorem dX12_compared_52 : decode cX12_compared 52 = .ok (.getfield 345, 3) := by decide +kernel
theorem dX12_compared_55 : decode cX12_compared 55 = .ok (.iconst 1, 1) := by decide +kernel
theorem dX12_compared_56 : decode cX12_compared 56 = .ok (.iadd, 1) := by decide +kernel
theorem dX12_compared_57 : decode cX12_compared 57 = .ok (.putfield 345, 3) := by decide +kernel
theorem dX12_compared_60 : decode cX12_compared 60 = .ok (.iconst 0, 1) := by decide +kernel
theorem dX12_compared_61 : decode cX12_compared 61 = .ok (.istore 5, 2) := by decide +kernel
theorem dX12_compared_63 : decode cX12_compared 63 = .ok (.aload_n 0, 1) := by decide +kernel
theorem dX12_compared_64 : decode cX12_compared 64 = .ok (.iload_n 1, 1) := by decide +kernel
theorem dX12_compared_65 : decode cX12_compared 65 = .ok (.invokevirtual 348, 3) := by decide +kernel
theorem dX12_compared_68 : decode cX12_compared 68 = .ok (.invokestatic 320, 3) := by decide +kernel
theorem dX12_compared_71 : decode cX12_compared 71 = .ok (.ifCond .eq 32, 3) := by decide +kernel
theorem dX12_compared_74 : decode cX12_compared 74 = .ok (.bipush 10, 2) := by decide +kernel
theorem dX12_compared_76 : decode cX12_compared 76 = .ok (.iload 5, 2) := by decide +kernel
theorem dX12_compared_78 : decode cX12_compared 78 = .ok (.imul, 1) := by decide +kernel
theorem dX12_compared_79 : decode cX12_compared 79 = .ok (.aload_n 0, 1) := by decide +kernel
theorem dX12_compared_80 : decode cX12_compared 80 = .ok (.iload_n 1, 1) := by decide +kernel
theorem dX12_compared_81 : decode cX12_compared 81 = .ok (.invokevirtual 348, 3) := by decide +kernel
theorem dX12_compared_84 : decode cX12_compared 84 = .ok (.iadd, 1) := by decide +kernel
theorem dX12_compared_85 : decode cX12_compared 85 = .ok (.bipush 48, 2) := by decide +kernel
theorem dX12_compared_87 : decode cX12_compared 87 = .ok (.isub, 1) := by decide +kernel
theorem dX12_compared_88 : decode cX12_compared 88 = .ok (.istore 5, 2) := by decide +kernel
theorem dX12_compared_90 : decode cX12_compared 90 = .ok (.aload_n 0, 1) := by decide +kernel
theorem dX12_compared_91 : decode cX12_compared 91 = .ok (.dup, 1) := by decide +kernel
theorem dX12_compared_92 : decode cX12_compared 92 = .ok (.getfield 345, 3) := by decide +kernel
theorem dX12_compared_95 : decode cX12_compared 95 = .ok (.iconst 1, 1) := by decide +kernel
theorem dX12_compared_96 : decode cX12_compared 96 = .ok (.iadd, 1) := by decide +kernel
theorem dX12_compared_97 : decode cX12_compared 97 = .ok (.putfield 345, 3) := by decide +kernel
theorem dX12_compared_100 : decode cX12_compared 100 = .ok (.goto (-37), 3) := by decide +kernel
theorem dX12_compared_103 : decode cX12_compared 103 = .ok (.aload_n 0, 1) := by decide +kernel
theorem dX12_compared_104 : decode cX12_compared 104 = .ok (.iload_n 2, 1) := by decide +kernel
theorem dX12_compared_105 : decode cX12_compared 105 = .ok (.iload_n 3, 1) := by decide +kernel
theorem dX12_compared_106 : decode cX12_compared 106 = .ok (.invokevirtual 351, 3) := by decide +kernel
theorem dX12_compared_109 : decode cX12_compared 109 = .ok (.istore 6, 2) := by decide +kernel
theorem dX12_compared_111 : decode cX12_compared 111 = .ok (.iload 4, 2) := by decide +kernel
theorem dX12_compared_113 : decode cX12_compared 113 = .ok (.bipush 60, 2) := by decide +kernel
theorem dX12_compared_115 : decode cX12_compared 115 = .ok (.if_icmp .ne 13, 3) := by decide +kernel
theorem dX12_compared_118 : decode cX12_compared 118 = .ok (.iload 6, 2) := by decide +kernel
theorem dX12_compared_120 : decode cX12_compared 120 = .ok (.iload 5, 2) := by decide +kernel
theorem dX12_compared_122 : decode cX12_compared 122 = .ok (.if_icmp .ge 34, 3) := by decide +kernel
theorem dX12_compared_125 : decode cX12_compared 125 = .ok (.goto 27, 3) := by decide +kernel
theorem dX12_compared_128 : decode cX12_compared 128 = .ok (.iload 4, 2) := by decide +kernel
theorem dX12_compared_130 : decode cX12_compared 130 = .ok (.bipush 62, 2) := by decide +kernel
theorem dX12_compared_132 : decode cX12_compared 132 = .ok (.if_icmp .ne 13, 3) := by decide +kernel
theorem dX12_compared_135 : decode cX12_compared 135 = .ok (.iload 6, 2) := by decide +kernel
theorem dX12_compared_137 : decode cX12_compared 137 = .ok (.iload 5, 2) := by decide +kernel
theorem dX12_compared_139 : decode cX12_compared 139 = .ok (.if_icmp .le 17, 3) := by decide +kernel
theorem dX12_compared_142 : decode cX12_compared 142 = .ok (.goto 10, 3) := by decide +kernel
theorem dX12_compared_145 : decode cX12_compared 145 = .ok (.iload 6, 2) := by decide +kernel
theorem dX12_compared_147 : decode cX12_compared 147 = .ok (.iload 5, 2) := by decide +kernel
theorem dX12_compared_149 : decode cX12_compared 149 = .ok (.if_icmp .ne 7, 3) := by decide +kernel
theorem dX12_compared_152 : decode cX12_compared 152 = .ok (.iconst 1, 1) := by decide +kernel
theorem dX12_compared_153 : decode cX12_compared 153 = .ok (.goto 4, 3) := by decide +kernel
theorem dX12_compared_156 : decode cX12_compared 156 = .ok (.iconst 0, 1) := by decide +kernel
theorem dX12_compared_157 : decode cX12_compared 157 = .ok (.ireturn, 1) := by decide +kernel
theorem dX12_works_0 : decode cX12_works 0 = .ok (.aload_n 0, 1) := by decide +kernel
theorem dX12_works_1 : decode cX12_works 1 = .ok (.getfield 354, 3) := by decide +kernel
theorem dX12_works_4 : decode cX12_works 4 = .ok (.ifCond .le 143, 3) := by decide +kernel
theorem dX12_works_7 : decode cX12_works 7 = .ok (.aload_n 0, 1) := by decide +kernel
theorem dX12_works_8 : decode cX12_works 8 = .ok (.getfield 110, 3) := by decide +kernel
theorem dX12_works_11 : decode cX12_works 11 = .ok (.aload_n 0, 1) := by decide +kernel
theorem dX12_works_12 : decode cX12_works 12 = .ok (.getfield 354, 3) := by decide +kernel
theorem dX12_works_15 : decode cX12_works 15 = .ok (.iconst 1, 1) := by decide +kernel
theorem dX12_works_16 : decode cX12_works 16 = .ok (.isub, 1) := by decide +kernel
theorem dX12_works_17 : decode cX12_works 17 = .ok (.iaload, 1) := by decide +kernel
theorem dX12_works_18 : decode cX12_works 18 = .ok (.iload_n 1, 1) := by decide +kernel
theorem dX12_works_19 : decode cX12_works 19 = .ok (.if_icmp .gt 128, 3) := by decide +kernel
theorem dX12_works_22 : decode cX12_works 22 = .ok (.aload_n 0, 1) := by decide +kernel
theorem dX12_works_23 : decode cX12_works 23 = .ok (.dup, 1) := by decide +kernel
theorem dX12_works_24 : decode cX12_works 24 = .ok (.getfield 354, 3) := by decide +kernel
theorem dX12_works_27 : decode cX12_works 27 = .ok (.iconst 1, 1) := by decide +kernel
theorem dX12_works_28 : decode cX12_works 28 = .ok (.isub, 1) := by decide +kernel
theorem dX12_works_29 : decode cX12_works 29 = .ok (.putfield 354, 3) := by decide +kernel
theorem dX12_works_32 : decode cX12_works 32 = .ok (.aload_n 0, 1) := by decide +kernel
theorem dX12_works_33 : decode cX12_works 33 = .ok (.getfield 110, 3) := by decide +kernel
theorem dX12_works_36 : decode cX12_works 36 = .ok (.aload_n 0, 1) := by decide +kernel
theorem dX12_works_37 : decode cX12_works 37 = .ok (.getfield 354, 3) := by decide +kernel
theorem dX12_works_40 : decode cX12_works 40 = .ok (.iaload, 1) := by decide +kernel
theorem dX12_works_41 : decode cX12_works 41 = .ok (.istore_n 2, 1) := by decide +kernel
theorem dX12_works_42 : decode cX12_works 42 = .ok (.iload_n 2, 1) := by decide +kernel
theorem dX12_works_43 : decode cX12_works 43 = .ok (.ifCond .ne 30, 3) := by decide +kernel
theorem dX12_works_46 : decode cX12_works 46 = .ok (.aload_n 0, 1) := by decide +kernel
theorem dX12_works_47 : decode cX12_works 47 = .ok (.getfield 113, 3) := by decide +kernel
theorem dX12_works_50 : decode cX12_works 50 = .ok (.aload_n 0, 1) := by decide +kernel
theorem dX12_works_51 : decode cX12_works 51 = .ok (.getfield 357, 3) := by decide +kernel
theorem dX12_works_54 : decode cX12_works 54 = .ok (.iconst 1, 1) := by decide +kernel
theorem dX12_works_55 : decode cX12_works 55 = .ok (.isub, 1) := by decide +kernel
theorem dX12_works_56 : decode cX12_works 56 = .ok (.iconst 1, 1) := by decide +kernel
theorem dX12_works_57 : decode cX12_works 57 = .ok (.aload_n 0, 1) := by decide +kernel
theorem dX12_works_58 : decode cX12_works 58 = .ok (.getfield 113, 3) := by decide +kernel
theorem dX12_works_61 : decode cX12_works 61 = .ok (.aload_n 0, 1) := by decide +kernel
theorem dX12_works_62 : decode cX12_works 62 = .ok (.getfield 357, 3) := by decide +kernel
theorem dX12_works_65 : decode cX12_works 65 = .ok (.iconst 1, 1) := by decide +kernel
theorem dX12_works_66 : decode cX12_works 66 = .ok (.isub, 1) := by decide +kernel
theorem dX12_works_67 : decode cX12_works 67 = .ok (.iaload, 1) := by decide +kernel
theorem dX12_works_68 : decode cX12_works 68 = .ok (.isub, 1) := by decide +kernel
theorem dX12_works_69 : decode cX12_works 69 = .ok (.iastore, 1) := by decide +kernel
theorem dX12_works_70 : decode cX12_works 70 = .ok (.goto 74, 3) := by decide +kernel
theorem dX12_works_73 : decode cX12_works 73 = .ok (.aload_n 0, 1) := by decide +kernel
theorem dX12_works_74 : decode cX12_works 74 = .ok (.dup, 1) := by decide +kernel
theorem dX12_works_75 : decode cX12_works 75 = .ok (.getfield 357, 3) := by decide +kernel
theorem dX12_works_78 : decode cX12_works 78 = .ok (.iconst 1, 1) := by decide +kernel
theorem dX12_works_79 : decode cX12_works 79 = .ok (.isub, 1) := by decide +kernel
theorem dX12_works_80 : decode cX12_works 80 = .ok (.putfield 357, 3) := by decide +kernel
theorem dX12_works_83 : decode cX12_works 83 = .ok (.aload_n 0, 1) := by decide +kernel
theorem dX12_works_84 : decode cX12_works 84 = .ok (.getfield 113, 3) := by decide +kernel
theorem dX12_works_87 : decode cX12_works 87 = .ok (.aload_n 0, 1) := by decide +kernel
theorem dX12_works_88 : decode cX12_works 88 = .ok (.getfield 357, 3) := by decide +kernel
theorem dX12_works_91 : decode cX12_works 91 = .ok (.iconst 1, 1) := by decide +kernel
theorem dX12_works_92 : decode cX12_works 92 = .ok (.isub, 1) := by decide +kernel
theorem dX12_works_93 : decode cX12_works 93 = .ok (.iload_n 2, 1) := by decide +kernel
theorem dX12_works_94 : decode cX12_works 94 = .ok (.iconst 1, 1) := by decide +kernel
theorem dX12_works_95 : decode cX12_works 95 = .ok (.if_icmp .ne 27, 3) := by decide +kernel
theorem dX12_works_98 : decode cX12_works 98 = .ok (.aload_n 0, 1) := by decide +kernel
theorem dX12_works_99 : decode cX12_works 99 = .ok (.getfield 113, 3) := by decide +kernel
theorem dX12_works_102 : decode cX12_works 102 = .ok (.aload_n 0, 1) := by decide +kernel
theorem dX12_works_103 : decode cX12_works 103 = .ok (.getfield 357, 3) := by decide +kernel
theorem dX12_works_106 : decode cX12_works 106 = .ok (.iconst 1, 1) := by decide +kernel
theorem dX12_works_107 : decode cX12_works 107 = .ok (.isub, 1) := by decide +kernel
theorem dX12_works_108 : decode cX12_works 108 = .ok (.iaload, 1) := by decide +kernel
theorem dX12_works_109 : decode cX12_works 109 = .ok (.aload_n 0, 1) := by decide +kernel
theorem dX12_works_110 : decode cX12_works 110 = .ok (.getfield 113, 3) := by decide +kernel
theorem dX12_works_113 : decode cX12_works 113 = .ok (.aload_n 0, 1) := by decide +kernel
theorem dX12_works_114 : decode cX12_works 114 = .ok (.getfield 357, 3) := by decide +kernel
theorem dX12_works_117 : decode cX12_works 117 = .ok (.iaload, 1) := by decide +kernel
theorem dX12_works_118 : decode cX12_works 118 = .ok (.iand, 1) := by decide +kernel
theorem dX12_works_119 : decode cX12_works 119 = .ok (.goto 24, 3) := by decide +kernel
theorem dX12_works_122 : decode cX12_works 122 = .ok (.aload_n 0, 1) := by decide +kernel
theorem dX12_works_123 : decode cX12_works 123 = .ok (.getfield 113, 3) := by decide +kernel
theorem dX12_works_126 : decode cX12_works 126 = .ok (.aload_n 0, 1) := by decide +kernel
theorem dX12_works_127 : decode cX12_works 127 = .ok (.getfield 357, 3) := by decide +kernel
theorem dX12_works_130 : decode cX12_works 130 = .ok (.iconst 1, 1) := by decide +kernel
theorem dX12_works_131 : decode cX12_works 131 = .ok (.isub, 1) := by decide +kernel
theorem dX12_works_132 : decode cX12_works 132 = .ok (.iaload, 1) := by decide +kernel
theorem dX12_works_133 : decode cX12_works 133 = .ok (.aload_n 0, 1) := by decide +kernel
theorem dX12_works_134 : decode cX12_works 134 = .ok (.getfield 113, 3) := by decide +kernel
theorem dX12_works_137 : decode cX12_works 137 = .ok (.aload_n 0, 1) := by decide +kernel
theorem dX12_works_138 : decode cX12_works 138 = .ok (.getfield 357, 3) := by decide +kernel
theorem dX12_works_141 : decode cX12_works 141 = .ok (.iaload, 1) := by decide +kernel
theorem dX12_works_142 : decode cX12_works 142 = .ok (.ior, 1) := by decide +kernel
theorem dX12_works_143 : decode cX12_works 143 = .ok (.iastore, 1) := by decide +kernel
theorem dX12_works_144 : decode cX12_works 144 = .ok (.goto (-144), 3) := by decide +kernel
theorem dX12_works_147 : decode cX12_works 147 = .ok (.return_, 1) := by decide +kernel
theorem dX12_waitsFor_0 : decode cX12_waitsFor 0 = .ok (.aload_n 0, 1) := by decide +kernel
theorem dX12_waitsFor_1 : decode cX12_waitsFor 1 = .ok (.getfield 110, 3) := by decide +kernel
theorem dX12_waitsFor_4 : decode cX12_waitsFor 4 = .ok (.aload_n 0, 1) := by decide +kernel
theorem dX12_waitsFor_5 : decode cX12_waitsFor 5 = .ok (.getfield 354, 3) := by decide +kernel
theorem dX12_waitsFor_8 : decode cX12_waitsFor 8 = .ok (.iload_n 1, 1) := by decide +kernel
theorem dX12_waitsFor_9 : decode cX12_waitsFor 9 = .ok (.iastore, 1) := by decide +kernel
theorem dX12_waitsFor_10 : decode cX12_waitsFor 10 = .ok (.aload_n 0, 1) := by decide +kernel
theorem dX12_waitsFor_11 : decode cX12_waitsFor 11 = .ok (.dup, 1) := by decide +kernel
theorem dX12_waitsFor_12 : decode cX12_waitsFor 12 = .ok (.getfield 354, 3) := by decide +kernel
theorem dX12_waitsFor_15 : decode cX12_waitsFor 15 = .ok (.iconst 1, 1) := by decide +kernel
theorem dX12_waitsFor_16 : decode cX12_waitsFor 16 = .ok (.iadd, 1) := by decide +kernel
theorem dX12_waitsFor_17 : decode cX12_waitsFor 17 = .ok (.putfield 354, 3) := by decide +kernel
theorem dX12_waitsFor_20 : decode cX12_waitsFor 20 = .ok (.return_, 1) := by decide +kernel
theorem dX12_holdsRule_0 : decode cX12_holdsRule 0 = .ok (.aload_n 0, 1) := by decide +kernel
theorem dX12_holdsRule_1 : decode cX12_holdsRule 1 = .ok (.iconst 3, 1) := by decide +kernel
theorem dX12_holdsRule_2 : decode cX12_holdsRule 2 = .ok (.putfield 345, 3) := by decide +kernel
theorem dX12_holdsRule_5 : decode cX12_holdsRule 5 = .ok (.aload_n 0, 1) := by decide +kernel
theorem dX12_holdsRule_6 : decode cX12_holdsRule 6 = .ok (.iconst 0, 1) := by decide +kernel
theorem dX12_holdsRule_7 : decode cX12_holdsRule 7 = .ok (.putfield 354, 3) := by decide +kernel
theorem dX12_holdsRule_10 : decode cX12_holdsRule 10 = .ok (.aload_n 0, 1) := by decide +kernel
theorem dX12_holdsRule_11 : decode cX12_holdsRule 11 = .ok (.iconst 0, 1) := by decide +kernel
theorem dX12_holdsRule_12 : decode cX12_holdsRule 12 = .ok (.putfield 357, 3) := by decide +kernel
theorem dX12_holdsRule_15 : decode cX12_holdsRule 15 = .ok (.aload_n 0, 1) := by decide +kernel
theorem dX12_holdsRule_16 : decode cX12_holdsRule 16 = .ok (.getfield 345, 3) := by decide +kernel
theorem dX12_holdsRule_19 : decode cX12_holdsRule 19 = .ok (.aload_n 0, 1) := by decide +kernel
theorem dX12_holdsRule_20 : decode cX12_holdsRule 20 = .ok (.getfield 101, 3) := by decide +kernel
theorem dX12_holdsRule_23 : decode cX12_holdsRule 23 = .ok (.iload_n 1, 1) := by decide +kernel
theorem dX12_holdsRule_24 : decode cX12_holdsRule 24 = .ok (.iaload, 1) := by decide +kernel
theorem dX12_holdsRule_25 : decode cX12_holdsRule 25 = .ok (.if_icmp .ge 181, 3) := by decide +kernel
theorem dX12_holdsRule_28 : decode cX12_holdsRule 28 = .ok (.aload_n 0, 1) := by decide +kernel
theorem dX12_holdsRule_29 : decode cX12_holdsRule 29 = .ok (.iload_n 1, 1) := by decide +kernel
theorem dX12_holdsRule_30 : decode cX12_holdsRule 30 = .ok (.invokevirtual 348, 3) := by decide +kernel
theorem dX12_holdsRule_33 : decode cX12_holdsRule 33 = .ok (.bipush 33, 2) := by decide +kernel
theorem dX12_holdsRule_35 : decode cX12_holdsRule 35 = .ok (.if_icmp .eq 13, 3) := by decide +kernel
theorem dX12_holdsRule_38 : decode cX12_holdsRule 38 = .ok (.aload_n 0, 1) := by decide +kernel
theorem dX12_holdsRule_39 : decode cX12_holdsRule 39 = .ok (.iload_n 1, 1) := by decide +kernel
theorem dX12_holdsRule_40 : decode cX12_holdsRule 40 = .ok (.invokevirtual 348, 3) := by decide +kernel
theorem dX12_holdsRule_43 : decode cX12_holdsRule 43 = .ok (.bipush 40, 2) := by decide +kernel
theorem dX12_holdsRule_45 : decode cX12_holdsRule 45 = .ok (.if_icmp .ne 36, 3) := by decide +kernel
theorem dX12_holdsRule_48 : decode cX12_holdsRule 48 = .ok (.aload_n 0, 1) := by decide +kernel
theorem dX12_holdsRule_49 : decode cX12_holdsRule 49 = .ok (.aload_n 0, 1) := by decide +kernel
theorem dX12_holdsRule_50 : decode cX12_holdsRule 50 = .ok (.iload_n 1, 1) := by decide +kernel
theorem dX12_holdsRule_51 : decode cX12_holdsRule 51 = .ok (.invokevirtual 348, 3) := by decide +kernel
theorem dX12_holdsRule_54 : decode cX12_holdsRule 54 = .ok (.bipush 33, 2) := by decide +kernel
theorem dX12_holdsRule_56 : decode cX12_holdsRule 56 = .ok (.if_icmp .ne 7, 3) := by decide +kernel
theorem dX12_holdsRule_59 : decode cX12_holdsRule 59 = .ok (.iconst 0, 1) := by decide +kernel
theorem dX12_holdsRule_60 : decode cX12_holdsRule 60 = .ok (.goto 5, 3) := by decide +kernel
theorem dX12_holdsRule_63 : decode cX12_holdsRule 63 = .ok (.bipush 9, 2) := by decide +kernel
theorem dX12_holdsRule_65 : decode cX12_holdsRule 65 = .ok (.invokevirtual 360, 3) := by decide +kernel
theorem dX12_holdsRule_68 : decode cX12_holdsRule 68 = .ok (.aload_n 0, 1) := by decide +kernel
theorem dX12_holdsRule_69 : decode cX12_holdsRule 69 = .ok (.dup, 1) := by decide +kernel
theorem dX12_holdsRule_70 : decode cX12_holdsRule 70 = .ok (.getfield 345, 3) := by decide +kernel
theorem dX12_holdsRule_73 : decode cX12_holdsRule 73 = .ok (.iconst 1, 1) := by decide +kernel
theorem dX12_holdsRule_74 : decode cX12_holdsRule 74 = .ok (.iadd, 1) := by decide +kernel
theorem dX12_holdsRule_75 : decode cX12_holdsRule 75 = .ok (.putfield 345, 3) := by decide +kernel
theorem dX12_holdsRule_78 : decode cX12_holdsRule 78 = .ok (.goto (-50), 3) := by decide +kernel
theorem dX12_holdsRule_81 : decode cX12_holdsRule 81 = .ok (.aload_n 0, 1) := by decide +kernel
theorem dX12_holdsRule_82 : decode cX12_holdsRule 82 = .ok (.getfield 113, 3) := by decide +kernel
theorem dX12_holdsRule_85 : decode cX12_holdsRule 85 = .ok (.aload_n 0, 1) := by decide +kernel
theorem dX12_holdsRule_86 : decode cX12_holdsRule 86 = .ok (.getfield 357, 3) := by decide +kernel
theorem dX12_holdsRule_89 : decode cX12_holdsRule 89 = .ok (.aload_n 0, 1) := by decide +kernel
theorem dX12_holdsRule_90 : decode cX12_holdsRule 90 = .ok (.iload_n 1, 1) := by decide +kernel
theorem dX12_holdsRule_91 : decode cX12_holdsRule 91 = .ok (.invokevirtual 363, 3) := by decide +kernel
theorem dX12_holdsRule_94 : decode cX12_holdsRule 94 = .ok (.iastore, 1) := by decide +kernel
theorem dX12_holdsRule_95 : decode cX12_holdsRule 95 = .ok (.aload_n 0, 1) := by decide +kernel
theorem dX12_holdsRule_96 : decode cX12_holdsRule 96 = .ok (.dup, 1) := by decide +kernel
theorem dX12_holdsRule_97 : decode cX12_holdsRule 97 = .ok (.getfield 357, 3) := by decide +kernel
theorem dX12_holdsRule_100 : decode cX12_holdsRule 100 = .ok (.iconst 1, 1) := by decide +kernel
theorem dX12_holdsRule_101 : decode cX12_holdsRule 101 = .ok (.iadd, 1) := by decide +kernel
theorem dX12_holdsRule_102 : decode cX12_holdsRule 102 = .ok (.putfield 357, 3) := by decide +kernel
theorem dX12_holdsRule_105 : decode cX12_holdsRule 105 = .ok (.aload_n 0, 1) := by decide +kernel
theorem dX12_holdsRule_106 : decode cX12_holdsRule 106 = .ok (.iconst 0, 1) := by decide +kernel
theorem dX12_holdsRule_107 : decode cX12_holdsRule 107 = .ok (.invokevirtual 366, 3) := by decide +kernel
theorem dX12_holdsRule_110 : decode cX12_holdsRule 110 = .ok (.aload_n 0, 1) := by decide +kernel
theorem dX12_holdsRule_111 : decode cX12_holdsRule 111 = .ok (.iload_n 1, 1) := by decide +kernel
theorem dX12_holdsRule_112 : decode cX12_holdsRule 112 = .ok (.invokevirtual 348, 3) := by decide +kernel
theorem dX12_holdsRule_115 : decode cX12_holdsRule 115 = .ok (.bipush 41, 2) := by decide +kernel
theorem dX12_holdsRule_117 : decode cX12_holdsRule 117 = .ok (.if_icmp .ne 36, 3) := by decide +kernel
theorem dX12_holdsRule_120 : decode cX12_holdsRule 120 = .ok (.aload_n 0, 1) := by decide +kernel
theorem dX12_holdsRule_121 : decode cX12_holdsRule 121 = .ok (.iconst 2, 1) := by decide +kernel
theorem dX12_holdsRule_122 : decode cX12_holdsRule 122 = .ok (.invokevirtual 366, 3) := by decide +kernel
theorem dX12_holdsRule_125 : decode cX12_holdsRule 125 = .ok (.aload_n 0, 1) := by decide +kernel
theorem dX12_holdsRule_126 : decode cX12_holdsRule 126 = .ok (.dup, 1) := by decide +kernel
theorem dX12_holdsRule_127 : decode cX12_holdsRule 127 = .ok (.getfield 354, 3) := by decide +kernel
theorem dX12_holdsRule_130 : decode cX12_holdsRule 130 = .ok (.iconst 1, 1) := by decide +kernel
theorem dX12_holdsRule_131 : decode cX12_holdsRule 131 = .ok (.isub, 1) := by decide +kernel
theorem dX12_holdsRule_132 : decode cX12_holdsRule 132 = .ok (.putfield 354, 3) := by decide +kernel
theorem dX12_holdsRule_135 : decode cX12_holdsRule 135 = .ok (.aload_n 0, 1) := by decide +kernel
theorem dX12_holdsRule_136 : decode cX12_holdsRule 136 = .ok (.dup, 1) := by decide +kernel
theorem dX12_holdsRule_137 : decode cX12_holdsRule 137 = .ok (.getfield 345, 3) := by decide +kernel
theorem dX12_holdsRule_140 : decode cX12_holdsRule 140 = .ok (.iconst 1, 1) := by decide +kernel
theorem dX12_holdsRule_141 : decode cX12_holdsRule 141 = .ok (.iadd, 1) := by decide +kernel
theorem dX12_holdsRule_142 : decode cX12_holdsRule 142 = .ok (.putfield 345, 3) := by decide +kernel
theorem dX12_holdsRule_145 : decode cX12_holdsRule 145 = .ok (.aload_n 0, 1) := by decide +kernel
theorem dX12_holdsRule_146 : decode cX12_holdsRule 146 = .ok (.iconst 0, 1) := by decide +kernel
theorem dX12_holdsRule_147 : decode cX12_holdsRule 147 = .ok (.invokevirtual 366, 3) := by decide +kernel
theorem dX12_holdsRule_150 : decode cX12_holdsRule 150 = .ok (.goto (-40), 3) := by decide +kernel
theorem dX12_holdsRule_153 : decode cX12_holdsRule 153 = .ok (.aload_n 0, 1) := by decide +kernel
theorem dX12_holdsRule_154 : decode cX12_holdsRule 154 = .ok (.iload_n 1, 1) := by decide +kernel
theorem dX12_holdsRule_155 : decode cX12_holdsRule 155 = .ok (.invokevirtual 348, 3) := by decide +kernel
theorem dX12_holdsRule_158 : decode cX12_holdsRule 158 = .ok (.bipush 38, 2) := by decide +kernel
theorem dX12_holdsRule_160 : decode cX12_holdsRule 160 = .ok (.if_icmp .ne 13, 3) := by decide +kernel
theorem dX12_holdsRule_163 : decode cX12_holdsRule 163 = .ok (.aload_n 0, 1) := by decide +kernel
theorem dX12_holdsRule_164 : decode cX12_holdsRule 164 = .ok (.iconst 1, 1) := by decide +kernel
theorem dX12_holdsRule_165 : decode cX12_holdsRule 165 = .ok (.invokevirtual 366, 3) := by decide +kernel
theorem dX12_holdsRule_168 : decode cX12_holdsRule 168 = .ok (.aload_n 0, 1) := by decide +kernel
theorem dX12_holdsRule_169 : decode cX12_holdsRule 169 = .ok (.iconst 1, 1) := by decide +kernel
theorem dX12_holdsRule_170 : decode cX12_holdsRule 170 = .ok (.invokevirtual 360, 3) := by decide +kernel
theorem dX12_holdsRule_173 : decode cX12_holdsRule 173 = .ok (.aload_n 0, 1) := by decide +kernel
theorem dX12_holdsRule_174 : decode cX12_holdsRule 174 = .ok (.iload_n 1, 1) := by decide +kernel
theorem dX12_holdsRule_175 : decode cX12_holdsRule 175 = .ok (.invokevirtual 348, 3) := by decide +kernel
theorem dX12_holdsRule_178 : decode cX12_holdsRule 178 = .ok (.bipush 124, 2) := by decide +kernel
theorem dX12_holdsRule_180 : decode cX12_holdsRule 180 = .ok (.if_icmp .ne 13, 3) := by decide +kernel
theorem dX12_holdsRule_183 : decode cX12_holdsRule 183 = .ok (.aload_n 0, 1) := by decide +kernel
theorem dX12_holdsRule_184 : decode cX12_holdsRule 184 = .ok (.iconst 2, 1) := by decide +kernel
theorem dX12_holdsRule_185 : decode cX12_holdsRule 185 = .ok (.invokevirtual 366, 3) := by decide +kernel
theorem dX12_holdsRule_188 : decode cX12_holdsRule 188 = .ok (.aload_n 0, 1) := by decide +kernel
theorem dX12_holdsRule_189 : decode cX12_holdsRule 189 = .ok (.iconst 2, 1) := by decide +kernel
theorem dX12_holdsRule_190 : decode cX12_holdsRule 190 = .ok (.invokevirtual 360, 3) := by decide +kernel
theorem dX12_holdsRule_193 : decode cX12_holdsRule 193 = .ok (.aload_n 0, 1) := by decide +kernel
theorem dX12_holdsRule_194 : decode cX12_holdsRule 194 = .ok (.dup, 1) := by decide +kernel
theorem dX12_holdsRule_195 : decode cX12_holdsRule 195 = .ok (.getfield 345, 3) := by decide +kernel
theorem dX12_holdsRule_198 : decode cX12_holdsRule 198 = .ok (.iconst 1, 1) := by decide +kernel
theorem dX12_holdsRule_199 : decode cX12_holdsRule 199 = .ok (.iadd, 1) := by decide +kernel
theorem dX12_holdsRule_200 : decode cX12_holdsRule 200 = .ok (.putfield 345, 3) := by decide +kernel
theorem dX12_holdsRule_203 : decode cX12_holdsRule 203 = .ok (.goto (-188), 3) := by decide +kernel
theorem dX12_holdsRule_206 : decode cX12_holdsRule 206 = .ok (.aload_n 0, 1) := by decide +kernel
theorem dX12_holdsRule_207 : decode cX12_holdsRule 207 = .ok (.iconst 2, 1) := by decide +kernel
theorem dX12_holdsRule_208 : decode cX12_holdsRule 208 = .ok (.invokevirtual 366, 3) := by decide +kernel
theorem dX12_holdsRule_211 : decode cX12_holdsRule 211 = .ok (.aload_n 0, 1) := by decide +kernel
theorem dX12_holdsRule_212 : decode cX12_holdsRule 212 = .ok (.getfield 113, 3) := by decide +kernel
theorem dX12_holdsRule_215 : decode cX12_holdsRule 215 = .ok (.iconst 0, 1) := by decide +kernel
theorem dX12_holdsRule_216 : decode cX12_holdsRule 216 = .ok (.iaload, 1) := by decide +kernel
theorem dX12_holdsRule_217 : decode cX12_holdsRule 217 = .ok (.iconst 1, 1) := by decide +kernel
theorem dX12_holdsRule_218 : decode cX12_holdsRule 218 = .ok (.if_icmp .ne 7, 3) := by decide +kernel
theorem dX12_holdsRule_221 : decode cX12_holdsRule 221 = .ok (.iconst 1, 1) := by decide +kernel
theorem dX12_holdsRule_222 : decode cX12_holdsRule 222 = .ok (.goto 4, 3) := by decide +kernel
theorem dX12_holdsRule_225 : decode cX12_holdsRule 225 = .ok (.iconst 0, 1) := by decide +kernel
theorem dX12_holdsRule_226 : decode cX12_holdsRule 226 = .ok (.ireturn, 1) := by decide +kernel
theorem dX12_forbidden_0 : decode cX12_forbidden 0 = .ok (.iconst 0, 1) := by decide +kernel
theorem dX12_forbidden_1 : decode cX12_forbidden 1 = .ok (.istore_n 3, 1) := by decide +kernel
theorem dX12_forbidden_2 : decode cX12_forbidden 2 = .ok (.iload_n 3, 1) := by decide +kernel
theorem dX12_forbidden_3 : decode cX12_forbidden 3 = .ok (.aload_n 0, 1) := by decide +kernel
theorem dX12_forbidden_4 : decode cX12_forbidden 4 = .ok (.getfield 336, 3) := by decide +kernel
theorem dX12_forbidden_7 : decode cX12_forbidden 7 = .ok (.if_icmp .ge 72, 3) := by decide +kernel
theorem dX12_forbidden_10 : decode cX12_forbidden 10 = .ok (.aload_n 0, 1) := by decide +kernel
theorem dX12_forbidden_11 : decode cX12_forbidden 11 = .ok (.getfield 107, 3) := by decide +kernel
theorem dX12_forbidden_14 : decode cX12_forbidden 14 = .ok (.iload_n 3, 1) := by decide +kernel
theorem dX12_forbidden_15 : decode cX12_forbidden 15 = .ok (.baload, 1) := by decide +kernel
theorem dX12_forbidden_16 : decode cX12_forbidden 16 = .ok (.ifCond .ne 57, 3) := by decide +kernel
theorem dX12_forbidden_19 : decode cX12_forbidden 19 = .ok (.aload_n 0, 1) := by decide +kernel
theorem dX12_forbidden_20 : decode cX12_forbidden 20 = .ok (.getfield 98, 3) := by decide +kernel
theorem dX12_forbidden_23 : decode cX12_forbidden 23 = .ok (.bipush 40, 2) := by decide +kernel
theorem dX12_forbidden_25 : decode cX12_forbidden 25 = .ok (.iload_n 3, 1) := by decide +kernel
theorem dX12_forbidden_26 : decode cX12_forbidden 26 = .ok (.imul, 1) := by decide +kernel
theorem dX12_forbidden_27 : decode cX12_forbidden 27 = .ok (.iaload, 1) := by decide +kernel
theorem dX12_forbidden_28 : decode cX12_forbidden 28 = .ok (.iload_n 2, 1) := by decide +kernel
theorem dX12_forbidden_29 : decode cX12_forbidden 29 = .ok (.ifCond .eq 8, 3) := by decide +kernel
theorem dX12_forbidden_32 : decode cX12_forbidden 32 = .ok (.bipush 80, 2) := by decide +kernel
theorem dX12_forbidden_34 : decode cX12_forbidden 34 = .ok (.goto 5, 3) := by decide +kernel
theorem dX12_forbidden_37 : decode cX12_forbidden 37 = .ok (.bipush 86, 2) := by decide +kernel
theorem dX12_forbidden_39 : decode cX12_forbidden 39 = .ok (.if_icmp .ne 34, 3) := by decide +kernel
theorem dX12_forbidden_42 : decode cX12_forbidden 42 = .ok (.aload_n 0, 1) := by decide +kernel
theorem dX12_forbidden_43 : decode cX12_forbidden 43 = .ok (.getfield 98, 3) := by decide +kernel
theorem dX12_forbidden_46 : decode cX12_forbidden 46 = .ok (.bipush 40, 2) := by decide +kernel
theorem dX12_forbidden_48 : decode cX12_forbidden 48 = .ok (.iload_n 3, 1) := by decide +kernel
theorem dX12_forbidden_49 : decode cX12_forbidden 49 = .ok (.imul, 1) := by decide +kernel
theorem dX12_forbidden_50 : decode cX12_forbidden 50 = .ok (.iconst 1, 1) := by decide +kernel
theorem dX12_forbidden_51 : decode cX12_forbidden 51 = .ok (.iadd, 1) := by decide +kernel
theorem dX12_forbidden_52 : decode cX12_forbidden 52 = .ok (.iaload, 1) := by decide +kernel
theorem dX12_forbidden_53 : decode cX12_forbidden 53 = .ok (.bipush 48, 2) := by decide +kernel
theorem dX12_forbidden_55 : decode cX12_forbidden 55 = .ok (.iload_n 1, 1) := by decide +kernel
theorem dX12_forbidden_56 : decode cX12_forbidden 56 = .ok (.iadd, 1) := by decide +kernel
theorem dX12_forbidden_57 : decode cX12_forbidden 57 = .ok (.if_icmp .eq 6, 3) := by decide +kernel
theorem dX12_forbidden_60 : decode cX12_forbidden 60 = .ok (.goto 13, 3) := by decide +kernel
theorem dX12_forbidden_63 : decode cX12_forbidden 63 = .ok (.aload_n 0, 1) := by decide +kernel
theorem dX12_forbidden_64 : decode cX12_forbidden 64 = .ok (.iload_n 3, 1) := by decide +kernel
theorem dX12_forbidden_65 : decode cX12_forbidden 65 = .ok (.invokevirtual 369, 3) := by decide +kernel
theorem dX12_forbidden_68 : decode cX12_forbidden 68 = .ok (.ifCond .eq 5, 3) := by decide +kernel
theorem dX12_forbidden_71 : decode cX12_forbidden 71 = .ok (.iload_n 3, 1) := by decide +kernel
theorem dX12_forbidden_72 : decode cX12_forbidden 72 = .ok (.ireturn, 1) := by decide +kernel
theorem dX12_forbidden_73 : decode cX12_forbidden 73 = .ok (.iinc 3 1, 3) := by decide +kernel
theorem dX12_forbidden_76 : decode cX12_forbidden 76 = .ok (.goto (-74), 3) := by decide +kernel
theorem dX12_forbidden_79 : decode cX12_forbidden 79 = .ok (.bipush (-9), 2) := by decide +kernel
theorem dX12_forbidden_81 : decode cX12_forbidden 81 = .ok (.ireturn, 1) := by decide +kernel
theorem dX12_forbids_0 : decode cX12_forbids 0 = .ok (.iload_n 2, 1) := by decide +kernel
theorem dX12_forbids_1 : decode cX12_forbids 1 = .ok (.ifCond .eq 14, 3) := by decide +kernel
theorem dX12_forbids_4 : decode cX12_forbids 4 = .ok (.aload_n 0, 1) := by decide +kernel
theorem dX12_forbids_5 : decode cX12_forbids 5 = .ok (.iload_n 1, 1) := by decide +kernel
theorem dX12_forbids_6 : decode cX12_forbids 6 = .ok (.invokevirtual 295, 3) := by decide +kernel
theorem dX12_forbids_9 : decode cX12_forbids 9 = .ok (.ifCond .ne 20, 3) := by decide +kernel
theorem dX12_forbids_12 : decode cX12_forbids 12 = .ok (.goto 11, 3) := by decide +kernel
theorem dX12_forbids_15 : decode cX12_forbids 15 = .ok (.aload_n 0, 1) := by decide +kernel
theorem dX12_forbids_16 : decode cX12_forbids 16 = .ok (.iload_n 1, 1) := by decide +kernel
theorem dX12_forbids_17 : decode cX12_forbids 17 = .ok (.invokevirtual 342, 3) := by decide +kernel
theorem dX12_forbids_20 : decode cX12_forbids 20 = .ok (.ifCond .ne 9, 3) := by decide +kernel
theorem dX12_forbids_23 : decode cX12_forbids 23 = .ok (.aload_n 0, 1) := by decide +kernel
theorem dX12_forbids_24 : decode cX12_forbids 24 = .ok (.iconst (-1), 1) := by decide +kernel
theorem dX12_forbids_25 : decode cX12_forbids 25 = .ok (.invokevirtual 226, 3) := by decide +kernel
theorem dX12_forbids_28 : decode cX12_forbids 28 = .ok (.ireturn, 1) := by decide +kernel
theorem dX12_forbids_29 : decode cX12_forbids 29 = .ok (.aload_n 0, 1) := by decide +kernel
theorem dX12_forbids_30 : decode cX12_forbids 30 = .ok (.iload_n 1, 1) := by decide +kernel
theorem dX12_forbids_31 : decode cX12_forbids 31 = .ok (.iload_n 2, 1) := by decide +kernel
theorem dX12_forbids_32 : decode cX12_forbids 32 = .ok (.invokevirtual 372, 3) := by decide +kernel
theorem dX12_forbids_35 : decode cX12_forbids 35 = .ok (.ireturn, 1) := by decide +kernel
theorem dX12_forgets_0 : decode cX12_forgets 0 = .ok (.aload_n 0, 1) := by decide +kernel
theorem dX12_forgets_1 : decode cX12_forgets 1 = .ok (.iconst 0, 1) := by decide +kernel
theorem dX12_forgets_2 : decode cX12_forgets 2 = .ok (.putfield 376, 3) := by decide +kernel
theorem dX12_forgets_5 : decode cX12_forgets 5 = .ok (.aload_n 0, 1) := by decide +kernel
theorem dX12_forgets_6 : decode cX12_forgets 6 = .ok (.iconst 0, 1) := by decide +kernel
theorem dX12_forgets_7 : decode cX12_forgets 7 = .ok (.putfield 379, 3) := by decide +kernel
theorem dX12_forgets_10 : decode cX12_forgets 10 = .ok (.return_, 1) := by decide +kernel
theorem dX12_stateOf_0 : decode cX12_stateOf 0 = .ok (.iload_n 1, 1) := by decide +kernel
theorem dX12_stateOf_1 : decode cX12_stateOf 1 = .ok (.ifCond .ne 20, 3) := by decide +kernel
theorem dX12_stateOf_4 : decode cX12_stateOf 4 = .ok (.aload_n 0, 1) := by decide +kernel
theorem dX12_stateOf_5 : decode cX12_stateOf 5 = .ok (.getfield 61, 3) := by decide +kernel
theorem dX12_stateOf_8 : decode cX12_stateOf 8 = .ok (.iload_n 2, 1) := by decide +kernel
theorem dX12_stateOf_9 : decode cX12_stateOf 9 = .ok (.baload, 1) := by decide +kernel
theorem dX12_stateOf_10 : decode cX12_stateOf 10 = .ok (.ifCond .eq 7, 3) := by decide +kernel
theorem dX12_stateOf_13 : decode cX12_stateOf 13 = .ok (.iconst 1, 1) := by decide +kernel
theorem dX12_stateOf_14 : decode cX12_stateOf 14 = .ok (.goto 36, 3) := by decide +kernel
theorem dX12_stateOf_17 : decode cX12_stateOf 17 = .ok (.iconst 0, 1) := by decide +kernel
theorem dX12_stateOf_18 : decode cX12_stateOf 18 = .ok (.goto 32, 3) := by decide +kernel
theorem dX12_stateOf_21 : decode cX12_stateOf 21 = .ok (.aload_n 0, 1) := by decide +kernel
theorem dX12_stateOf_22 : decode cX12_stateOf 22 = .ok (.getfield 65, 3) := by decide +kernel
theorem dX12_stateOf_25 : decode cX12_stateOf 25 = .ok (.iload_n 2, 1) := by decide +kernel
theorem dX12_stateOf_26 : decode cX12_stateOf 26 = .ok (.baload, 1) := by decide +kernel
theorem dX12_stateOf_27 : decode cX12_stateOf 27 = .ok (.ifCond .eq 7, 3) := by decide +kernel
theorem dX12_stateOf_30 : decode cX12_stateOf 30 = .ok (.iconst 1, 1) := by decide +kernel
theorem dX12_stateOf_31 : decode cX12_stateOf 31 = .ok (.goto 4, 3) := by decide +kernel
theorem dX12_stateOf_34 : decode cX12_stateOf 34 = .ok (.iconst 0, 1) := by decide +kernel
theorem dX12_stateOf_35 : decode cX12_stateOf 35 = .ok (.aload_n 0, 1) := by decide +kernel
theorem dX12_stateOf_36 : decode cX12_stateOf 36 = .ok (.getfield 68, 3) := by decide +kernel
theorem dX12_stateOf_39 : decode cX12_stateOf 39 = .ok (.iload_n 2, 1) := by decide +kernel
theorem dX12_stateOf_40 : decode cX12_stateOf 40 = .ok (.baload, 1) := by decide +kernel
theorem dX12_stateOf_41 : decode cX12_stateOf 41 = .ok (.ifCond .eq 7, 3) := by decide +kernel
theorem dX12_stateOf_44 : decode cX12_stateOf 44 = .ok (.iconst 2, 1) := by decide +kernel
theorem dX12_stateOf_45 : decode cX12_stateOf 45 = .ok (.goto 4, 3) := by decide +kernel
theorem dX12_stateOf_48 : decode cX12_stateOf 48 = .ok (.iconst 0, 1) := by decide +kernel
theorem dX12_stateOf_49 : decode cX12_stateOf 49 = .ok (.iadd, 1) := by decide +kernel
theorem dX12_stateOf_50 : decode cX12_stateOf 50 = .ok (.ireturn, 1) := by decide +kernel
theorem dX12_becomes_0 : decode cX12_becomes 0 = .ok (.iload_n 1, 1) := by decide +kernel
theorem dX12_becomes_1 : decode cX12_becomes 1 = .ok (.ifCond .ne 20, 3) := by decide +kernel
theorem dX12_becomes_4 : decode cX12_becomes 4 = .ok (.aload_n 0, 1) := by decide +kernel
theorem dX12_becomes_5 : decode cX12_becomes 5 = .ok (.getfield 61, 3) := by decide +kernel
theorem dX12_becomes_8 : decode cX12_becomes 8 = .ok (.iload_n 2, 1) := by decide +kernel
theorem dX12_becomes_9 : decode cX12_becomes 9 = .ok (.iload_n 3, 1) := by decide +kernel
theorem dX12_becomes_10 : decode cX12_becomes 10 = .ok (.iconst 1, 1) := by decide +kernel
theorem dX12_becomes_11 : decode cX12_becomes 11 = .ok (.if_icmp .ne 7, 3) := by decide +kernel
theorem dX12_becomes_14 : decode cX12_becomes 14 = .ok (.iconst 1, 1) := by decide +kernel
theorem dX12_becomes_15 : decode cX12_becomes 15 = .ok (.goto 4, 3) := by decide +kernel
theorem dX12_becomes_18 : decode cX12_becomes 18 = .ok (.iconst 0, 1) := by decide +kernel
theorem dX12_becomes_19 : decode cX12_becomes 19 = .ok (.bastore, 1) := by decide +kernel
theorem dX12_becomes_20 : decode cX12_becomes 20 = .ok (.return_, 1) := by decide +kernel
theorem dX12_becomes_21 : decode cX12_becomes 21 = .ok (.aload_n 0, 1) := by decide +kernel
theorem dX12_becomes_22 : decode cX12_becomes 22 = .ok (.getfield 65, 3) := by decide +kernel
theorem dX12_becomes_25 : decode cX12_becomes 25 = .ok (.iload_n 2, 1) := by decide +kernel
theorem dX12_becomes_26 : decode cX12_becomes 26 = .ok (.iload_n 3, 1) := by decide +kernel
theorem dX12_becomes_27 : decode cX12_becomes 27 = .ok (.iconst 1, 1) := by decide +kernel
theorem dX12_becomes_28 : decode cX12_becomes 28 = .ok (.iand, 1) := by decide +kernel
theorem dX12_becomes_29 : decode cX12_becomes 29 = .ok (.iconst 1, 1) := by decide +kernel
theorem dX12_becomes_30 : decode cX12_becomes 30 = .ok (.if_icmp .ne 7, 3) := by decide +kernel
theorem dX12_becomes_33 : decode cX12_becomes 33 = .ok (.iconst 1, 1) := by decide +kernel
theorem dX12_becomes_34 : decode cX12_becomes 34 = .ok (.goto 4, 3) := by decide +kernel
theorem dX12_becomes_37 : decode cX12_becomes 37 = .ok (.iconst 0, 1) := by decide +kernel
theorem dX12_becomes_38 : decode cX12_becomes 38 = .ok (.bastore, 1) := by decide +kernel
theorem dX12_becomes_39 : decode cX12_becomes 39 = .ok (.aload_n 0, 1) := by decide +kernel
theorem dX12_becomes_40 : decode cX12_becomes 40 = .ok (.getfield 68, 3) := by decide +kernel
theorem dX12_becomes_43 : decode cX12_becomes 43 = .ok (.iload_n 2, 1) := by decide +kernel
theorem dX12_becomes_44 : decode cX12_becomes 44 = .ok (.iload_n 3, 1) := by decide +kernel
theorem dX12_becomes_45 : decode cX12_becomes 45 = .ok (.iconst 1, 1) := by decide +kernel
theorem dX12_becomes_46 : decode cX12_becomes 46 = .ok (.if_icmp .le 7, 3) := by decide +kernel
theorem dX12_becomes_49 : decode cX12_becomes 49 = .ok (.iconst 1, 1) := by decide +kernel
theorem dX12_becomes_50 : decode cX12_becomes 50 = .ok (.goto 4, 3) := by decide +kernel
theorem dX12_becomes_53 : decode cX12_becomes 53 = .ok (.iconst 0, 1) := by decide +kernel
theorem dX12_becomes_54 : decode cX12_becomes 54 = .ok (.bastore, 1) := by decide +kernel
theorem dX12_becomes_55 : decode cX12_becomes 55 = .ok (.return_, 1) := by decide +kernel
theorem dX12_acts_0 : decode cX12_acts 0 = .ok (.aload_n 0, 1) := by decide +kernel
theorem dX12_acts_1 : decode cX12_acts 1 = .ok (.iconst 0, 1) := by decide +kernel
theorem dX12_acts_2 : decode cX12_acts 2 = .ok (.putfield 379, 3) := by decide +kernel
theorem dX12_acts_5 : decode cX12_acts 5 = .ok (.aload_n 0, 1) := by decide +kernel
theorem dX12_acts_6 : decode cX12_acts 6 = .ok (.getfield 376, 3) := by decide +kernel
theorem dX12_acts_9 : decode cX12_acts 9 = .ok (.bipush 30, 2) := by decide +kernel
theorem dX12_acts_11 : decode cX12_acts 11 = .ok (.if_icmp .ne 93, 3) := by decide +kernel
theorem dX12_acts_14 : decode cX12_acts 14 = .ok (.iconst 1, 1) := by decide +kernel
theorem dX12_acts_15 : decode cX12_acts 15 = .ok (.istore 4, 2) := by decide +kernel
theorem dX12_acts_17 : decode cX12_acts 17 = .ok (.iload 4, 2) := by decide +kernel
theorem dX12_acts_19 : decode cX12_acts 19 = .ok (.bipush 30, 2) := by decide +kernel
theorem dX12_acts_21 : decode cX12_acts 21 = .ok (.if_icmp .ge 73, 3) := by decide +kernel
theorem dX12_acts_24 : decode cX12_acts 24 = .ok (.aload_n 0, 1) := by decide +kernel
theorem dX12_acts_25 : decode cX12_acts 25 = .ok (.getfield 116, 3) := by decide +kernel
theorem dX12_acts_28 : decode cX12_acts 28 = .ok (.iload 4, 2) := by decide +kernel
theorem dX12_acts_30 : decode cX12_acts 30 = .ok (.iconst 1, 1) := by decide +kernel
theorem dX12_acts_31 : decode cX12_acts 31 = .ok (.isub, 1) := by decide +kernel
theorem dX12_acts_32 : decode cX12_acts 32 = .ok (.aload_n 0, 1) := by decide +kernel
theorem dX12_acts_33 : decode cX12_acts 33 = .ok (.getfield 116, 3) := by decide +kernel
theorem dX12_acts_36 : decode cX12_acts 36 = .ok (.iload 4, 2) := by decide +kernel
theorem dX12_acts_38 : decode cX12_acts 38 = .ok (.iaload, 1) := by decide +kernel
theorem dX12_acts_39 : decode cX12_acts 39 = .ok (.iastore, 1) := by decide +kernel
theorem dX12_acts_40 : decode cX12_acts 40 = .ok (.aload_n 0, 1) := by decide +kernel
theorem dX12_acts_41 : decode cX12_acts 41 = .ok (.getfield 119, 3) := by decide +kernel
theorem dX12_acts_44 : decode cX12_acts 44 = .ok (.iload 4, 2) := by decide +kernel
theorem dX12_acts_46 : decode cX12_acts 46 = .ok (.iconst 1, 1) := by decide +kernel
theorem dX12_acts_47 : decode cX12_acts 47 = .ok (.isub, 1) := by decide +kernel
theorem dX12_acts_48 : decode cX12_acts 48 = .ok (.aload_n 0, 1) := by decide +kernel
theorem dX12_acts_49 : decode cX12_acts 49 = .ok (.getfield 119, 3) := by decide +kernel
theorem dX12_acts_52 : decode cX12_acts 52 = .ok (.iload 4, 2) := by decide +kernel
theorem dX12_acts_54 : decode cX12_acts 54 = .ok (.iaload, 1) := by decide +kernel
theorem dX12_acts_55 : decode cX12_acts 55 = .ok (.iastore, 1) := by decide +kernel
theorem dX12_acts_56 : decode cX12_acts 56 = .ok (.aload_n 0, 1) := by decide +kernel
theorem dX12_acts_57 : decode cX12_acts 57 = .ok (.getfield 122, 3) := by decide +kernel
theorem dX12_acts_60 : decode cX12_acts 60 = .ok (.iload 4, 2) := by decide +kernel
theorem dX12_acts_62 : decode cX12_acts 62 = .ok (.iconst 1, 1) := by decide +kernel
theorem dX12_acts_63 : decode cX12_acts 63 = .ok (.isub, 1) := by decide +kernel
theorem dX12_acts_64 : decode cX12_acts 64 = .ok (.aload_n 0, 1) := by decide +kernel
theorem dX12_acts_65 : decode cX12_acts 65 = .ok (.getfield 122, 3) := by decide +kernel
theorem dX12_acts_68 : decode cX12_acts 68 = .ok (.iload 4, 2) := by decide +kernel
theorem dX12_acts_70 : decode cX12_acts 70 = .ok (.iaload, 1) := by decide +kernel
theorem dX12_acts_71 : decode cX12_acts 71 = .ok (.iastore, 1) := by decide +kernel
theorem dX12_acts_72 : decode cX12_acts 72 = .ok (.aload_n 0, 1) := by decide +kernel
theorem dX12_acts_73 : decode cX12_acts 73 = .ok (.getfield 125, 3) := by decide +kernel
theorem dX12_acts_76 : decode cX12_acts 76 = .ok (.iload 4, 2) := by decide +kernel
