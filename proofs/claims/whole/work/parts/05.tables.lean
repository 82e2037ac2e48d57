/-! ===== the words of the tables by place; the table of cells ===== -/
def WT : List Cond := lw_tbl.filter goodWord
theorem wt_good : ∀ w ∈ WT, (w.onTables && w.keeps) = true ∨ ∃ ty, w = .arrayClass ty := fun w hw => good_of_word (List.mem_filter.mp hw).2
theorem wt_of {w : Cond} (h : w ∈ lw_tbl) (hg : goodWord w = true) : w ∈ WT := List.mem_filter.mpr ⟨h, hg⟩
theorem tb_0 {w : Cond} (h : w ∈ k2_sels lw_privs) : w ∈ lw_tbl := List.mem_append_left _ h
theorem tb_1 {w : Cond} (h : w ∈ tables_1_1) : w ∈ lw_tbl := List.mem_append_right _ (show w ∈ tables_1 from List.mem_append_left _ h)
theorem tb_2 {w : Cond} (h : w ∈ tables_1_2) : w ∈ lw_tbl := List.mem_append_right _ (show w ∈ tables_1 from List.mem_append_right _ (List.mem_append_left _ h))
theorem tb_3 {w : Cond} (h : w ∈ tables_1_3) : w ∈ lw_tbl := List.mem_append_right _ (show w ∈ tables_1 from List.mem_append_right _ (List.mem_append_right _ (List.mem_append_left _ h)))
theorem tb_4 {w : Cond} (h : w ∈ tables_1_4) : w ∈ lw_tbl := List.mem_append_right _ (show w ∈ tables_1 from List.mem_append_right _ (List.mem_append_right _ (List.mem_append_right _ (List.mem_append_left _ h))))
theorem tb_5 {w : Cond} (h : w ∈ tables_1_5) : w ∈ lw_tbl := List.mem_append_right _ (show w ∈ tables_1 from List.mem_append_right _ (List.mem_append_right _ (List.mem_append_right _ (List.mem_append_right _ (List.mem_append_left _ h)))))
theorem tb_6 {w : Cond} (h : w ∈ tables_1_6) : w ∈ lw_tbl := List.mem_append_right _ (show w ∈ tables_1 from List.mem_append_right _ (List.mem_append_right _ (List.mem_append_right _ (List.mem_append_right _ (List.mem_append_right _ (List.mem_append_left _ h))))))
theorem tb_7 {w : Cond} (h : w ∈ tables_1_7) : w ∈ lw_tbl := List.mem_append_right _ (show w ∈ tables_1 from List.mem_append_right _ (List.mem_append_right _ (List.mem_append_right _ (List.mem_append_right _ (List.mem_append_right _ (List.mem_append_right _ (h)))))))
def nestW : Cond := .methodLinkNest RX10 23 yX11_within "NearNothing"
abbrev classes : List vw_C := [(RX0, TX0, 5), (RX1, TX1, 4), (RX2, TX2, 5), (RX3, TX3, 6), (RX4, TX4, 7), (RX5, TX5, 16), (RX6, TX6, 8), (RX7, TX7, 10), (RX8, TX8, 8), (RX9, TX9, 9), (RX10, TX10, 2), (RX11, TX11, 13), (RX12, TX12, 81)]
def NC : Nat := 86
def LAY : List ((Nat × List (Option Nat)) ⊕ (Nat × Nat)) := [.inl (11, [some 1, some 13, some 19, some 25, some 29, some 32, some 52, some 54, some 63, some 67, some 72, some 77, some 85]), .inl (5, [none, some 2, some 3, some 4, some 5, some 6, none, some 7, some 8, some 9, none, none, some 10, some 11, some 12, none]), .inr (0, 5), .inr (0, 5), .inr (0, 5), .inr (0, 40), .inr (0, 15), .inr (0, 12), .inr (0, 12), .inr (0, 12), .inr (0, 8), .inr (0, 24), .inr (0, 8), .inl (4, [none, none, some 14, some 15, some 16, some 17, some 18]), .inr (0, 15), .inr (0, 15), .inr (0, 24), .inr (0, 3), .inr (0, 15), .inl (4, [none, none, some 20, some 21, some 22, some 23, some 24]), .inr (0, 15), .inr (0, 15), .inr (0, 24), .inr (0, 3), .inr (0, 15), .inl (0, [some 26, some 27, some 28, none, none]), .inr (0, 30), .inr (0, 30), .inr (0, 30), .inl (6, [some 30, none, none, none, none, none, some 31, none]), .inr (0, 40), .inr (0, 40), .inl (8, [some 1, some 13, none, none, none, some 33, some 34, some 35]), .inr (0, 16), .inr (0, 16), .inr (3, 16), .inr (0, 40), .inr (0, 40), .inr (0, 40), .inr (0, 40), .inr (0, 40), .inr (0, 40), .inr (0, 40), .inr (0, 40), .inr (0, 40), .inr (0, 40), .inr (0, 40), .inr (0, 40), .inr (0, 40), .inr (0, 40), .inr (0, 40), .inr (0, 40), .inl (10, [some 32, some 53]), .inr (1, 256), .inl (7, [some 1, some 55, some 56, some 57, some 58, some 59, none, some 60, some 61, some 62]), .inr (0, 5), .inr (0, 5), .inr (2, 25), .inr (2, 5), .inr (2, 32), .inr (0, 6), .inr (0, 6), .inr (0, 6), .inl (2, [some 64, some 65, some 66, none, none]), .inr (1, 25), .inr (0, 25), .inr (0, 25), .inl (3, [some 68, some 69, some 70, some 71, none, none]), .inr (0, 9), .inr (0, 3), .inr (0, 3), .inr (0, 3), .inl (1, [some 73, some 74, some 75, some 76]), .inr (0, 4), .inr (0, 4), .inr (0, 4), .inr (0, 4), .inl (9, [some 78, none, some 79, some 80, none, some 81, some 82, some 83, some 84]), .inr (0, 8), .inr (0, 20), .inr (0, 20), .inr (0, 20), .inr (1, 20), .inr (0, 20), .inr (0, 8), .inr (0, 8), .inl (12, [some 87, some 88, some 89, some 90, some 91, some 92, some 93, some 94, some 95, some 96, some 97, some 98, some 99, some 100, some 101, some 102, some 103, some 104, some 105, some 106, none, none, none, none, some 107, some 108, some 109, some 110, some 111, some 112, some 113, some 114, some 115, some 116, some 117, some 118, some 119, none, none, none, none, some 120, some 121, none, none, none, some 122, some 123, some 124, some 125, none, none, some 126, some 127, some 128, some 129, some 130, some 131, some 132, some 133, some 134, some 135, some 136, some 137, some 138, some 139, some 140, some 141, some 142, some 143, some 144, some 145, some 146, some 147, some 148, none, none, some 149, some 150, some 151, none]), .inr (0, 8), .inr (0, 5), .inr (0, 5), .inr (0, 5), .inr (0, 40), .inr (0, 12), .inr (0, 12), .inr (0, 12), .inr (0, 8), .inr (0, 24), .inr (0, 8), .inr (0, 15), .inr (0, 15), .inr (0, 15), .inr (0, 24), .inr (0, 3), .inr (0, 3), .inr (1, 12), .inr (1, 8), .inr (1, 8), .inr (0, 36), .inr (0, 36), .inr (0, 15), .inr (0, 15), .inr (0, 24), .inr (0, 3), .inr (0, 3), .inr (1, 8), .inr (0, 40), .inr (0, 640), .inr (0, 16), .inr (0, 8), .inr (1, 16), .inr (0, 40), .inr (0, 40), .inr (0, 30), .inr (0, 30), .inr (0, 30), .inr (0, 30), .inr (0, 6), .inr (0, 6), .inr (2, 30), .inr (0, 5), .inr (0, 5), .inr (1, 5), .inr (1, 25), .inr (0, 25), .inr (0, 25), .inr (0, 4), .inr (0, 4), .inr (0, 9), .inr (0, 3), .inr (0, 4), .inr (0, 4), .inr (0, 4), .inr (0, 4), .inr (0, 8), .inr (0, 20), .inr (0, 20), .inr (0, 20), .inr (0, 8), .inr (1, 20), .inr (0, 6), .inr (0, 6), .inr (0, 6)]
theorem la_0 : LAY[0]? = some (.inl (11, [some 1, some 13, some 19, some 25, some 29, some 32, some 52, some 54, some 63, some 67, some 72, some 77, some 85])) := by decide +kernel
theorem la_1 : LAY[1]? = some (.inl (5, [none, some 2, some 3, some 4, some 5, some 6, none, some 7, some 8, some 9, none, none, some 10, some 11, some 12, none])) := by decide +kernel
theorem la_2 : LAY[2]? = some (.inr (0, 5)) := by decide +kernel
theorem la_3 : LAY[3]? = some (.inr (0, 5)) := by decide +kernel
theorem la_4 : LAY[4]? = some (.inr (0, 5)) := by decide +kernel
theorem la_5 : LAY[5]? = some (.inr (0, 40)) := by decide +kernel
theorem la_6 : LAY[6]? = some (.inr (0, 15)) := by decide +kernel
theorem la_7 : LAY[7]? = some (.inr (0, 12)) := by decide +kernel
theorem la_8 : LAY[8]? = some (.inr (0, 12)) := by decide +kernel
theorem la_9 : LAY[9]? = some (.inr (0, 12)) := by decide +kernel
theorem la_10 : LAY[10]? = some (.inr (0, 8)) := by decide +kernel
theorem la_11 : LAY[11]? = some (.inr (0, 24)) := by decide +kernel
theorem la_12 : LAY[12]? = some (.inr (0, 8)) := by decide +kernel
theorem la_13 : LAY[13]? = some (.inl (4, [none, none, some 14, some 15, some 16, some 17, some 18])) := by decide +kernel
theorem la_14 : LAY[14]? = some (.inr (0, 15)) := by decide +kernel
theorem la_15 : LAY[15]? = some (.inr (0, 15)) := by decide +kernel
theorem la_16 : LAY[16]? = some (.inr (0, 24)) := by decide +kernel
theorem la_17 : LAY[17]? = some (.inr (0, 3)) := by decide +kernel
theorem la_18 : LAY[18]? = some (.inr (0, 15)) := by decide +kernel
theorem la_19 : LAY[19]? = some (.inl (4, [none, none, some 20, some 21, some 22, some 23, some 24])) := by decide +kernel
theorem la_20 : LAY[20]? = some (.inr (0, 15)) := by decide +kernel
theorem la_21 : LAY[21]? = some (.inr (0, 15)) := by decide +kernel
theorem la_22 : LAY[22]? = some (.inr (0, 24)) := by decide +kernel
theorem la_23 : LAY[23]? = some (.inr (0, 3)) := by decide +kernel
theorem la_24 : LAY[24]? = some (.inr (0, 15)) := by decide +kernel
theorem la_25 : LAY[25]? = some (.inl (0, [some 26, some 27, some 28, none, none])) := by decide +kernel
theorem la_26 : LAY[26]? = some (.inr (0, 30)) := by decide +kernel
theorem la_27 : LAY[27]? = some (.inr (0, 30)) := by decide +kernel
theorem la_28 : LAY[28]? = some (.inr (0, 30)) := by decide +kernel
theorem la_29 : LAY[29]? = some (.inl (6, [some 30, none, none, none, none, none, some 31, none])) := by decide +kernel
theorem la_30 : LAY[30]? = some (.inr (0, 40)) := by decide +kernel
theorem la_31 : LAY[31]? = some (.inr (0, 40)) := by decide +kernel
theorem la_32 : LAY[32]? = some (.inl (8, [some 1, some 13, none, none, none, some 33, some 34, some 35])) := by decide +kernel
theorem la_33 : LAY[33]? = some (.inr (0, 16)) := by decide +kernel
theorem la_34 : LAY[34]? = some (.inr (0, 16)) := by decide +kernel
theorem la_35 : LAY[35]? = some (.inr (3, 16)) := by decide +kernel
theorem la_36 : LAY[36]? = some (.inr (0, 40)) := by decide +kernel
theorem la_37 : LAY[37]? = some (.inr (0, 40)) := by decide +kernel
theorem la_38 : LAY[38]? = some (.inr (0, 40)) := by decide +kernel
theorem la_39 : LAY[39]? = some (.inr (0, 40)) := by decide +kernel
theorem la_40 : LAY[40]? = some (.inr (0, 40)) := by decide +kernel
theorem la_41 : LAY[41]? = some (.inr (0, 40)) := by decide +kernel
theorem la_42 : LAY[42]? = some (.inr (0, 40)) := by decide +kernel
theorem la_43 : LAY[43]? = some (.inr (0, 40)) := by decide +kernel
theorem la_44 : LAY[44]? = some (.inr (0, 40)) := by decide +kernel
theorem la_45 : LAY[45]? = some (.inr (0, 40)) := by decide +kernel
theorem la_46 : LAY[46]? = some (.inr (0, 40)) := by decide +kernel
theorem la_47 : LAY[47]? = some (.inr (0, 40)) := by decide +kernel
theorem la_48 : LAY[48]? = some (.inr (0, 40)) := by decide +kernel
theorem la_49 : LAY[49]? = some (.inr (0, 40)) := by decide +kernel
theorem la_50 : LAY[50]? = some (.inr (0, 40)) := by decide +kernel
theorem la_51 : LAY[51]? = some (.inr (0, 40)) := by decide +kernel
theorem la_52 : LAY[52]? = some (.inl (10, [some 32, some 53])) := by decide +kernel
theorem la_53 : LAY[53]? = some (.inr (1, 256)) := by decide +kernel
theorem la_54 : LAY[54]? = some (.inl (7, [some 1, some 55, some 56, some 57, some 58, some 59, none, some 60, some 61, some 62])) := by decide +kernel
theorem la_55 : LAY[55]? = some (.inr (0, 5)) := by decide +kernel
theorem la_56 : LAY[56]? = some (.inr (0, 5)) := by decide +kernel
theorem la_57 : LAY[57]? = some (.inr (2, 25)) := by decide +kernel
theorem la_58 : LAY[58]? = some (.inr (2, 5)) := by decide +kernel
theorem la_59 : LAY[59]? = some (.inr (2, 32)) := by decide +kernel
theorem la_60 : LAY[60]? = some (.inr (0, 6)) := by decide +kernel
theorem la_61 : LAY[61]? = some (.inr (0, 6)) := by decide +kernel
theorem la_62 : LAY[62]? = some (.inr (0, 6)) := by decide +kernel
theorem la_63 : LAY[63]? = some (.inl (2, [some 64, some 65, some 66, none, none])) := by decide +kernel
theorem la_64 : LAY[64]? = some (.inr (1, 25)) := by decide +kernel
theorem la_65 : LAY[65]? = some (.inr (0, 25)) := by decide +kernel
theorem la_66 : LAY[66]? = some (.inr (0, 25)) := by decide +kernel
theorem la_67 : LAY[67]? = some (.inl (3, [some 68, some 69, some 70, some 71, none, none])) := by decide +kernel
theorem la_68 : LAY[68]? = some (.inr (0, 9)) := by decide +kernel
theorem la_69 : LAY[69]? = some (.inr (0, 3)) := by decide +kernel
theorem la_70 : LAY[70]? = some (.inr (0, 3)) := by decide +kernel
theorem la_71 : LAY[71]? = some (.inr (0, 3)) := by decide +kernel
theorem la_72 : LAY[72]? = some (.inl (1, [some 73, some 74, some 75, some 76])) := by decide +kernel
theorem la_73 : LAY[73]? = some (.inr (0, 4)) := by decide +kernel
theorem la_74 : LAY[74]? = some (.inr (0, 4)) := by decide +kernel
theorem la_75 : LAY[75]? = some (.inr (0, 4)) := by decide +kernel
theorem la_76 : LAY[76]? = some (.inr (0, 4)) := by decide +kernel
theorem la_77 : LAY[77]? = some (.inl (9, [some 78, none, some 79, some 80, none, some 81, some 82, some 83, some 84])) := by decide +kernel
theorem la_78 : LAY[78]? = some (.inr (0, 8)) := by decide +kernel
theorem la_79 : LAY[79]? = some (.inr (0, 20)) := by decide +kernel
theorem la_80 : LAY[80]? = some (.inr (0, 20)) := by decide +kernel
theorem la_81 : LAY[81]? = some (.inr (0, 20)) := by decide +kernel
theorem la_82 : LAY[82]? = some (.inr (1, 20)) := by decide +kernel
theorem la_83 : LAY[83]? = some (.inr (0, 20)) := by decide +kernel
theorem la_84 : LAY[84]? = some (.inr (0, 8)) := by decide +kernel
theorem la_85 : LAY[85]? = some (.inr (0, 8)) := by decide +kernel
theorem la_86 : LAY[86]? = some (.inl (12, [some 87, some 88, some 89, some 90, some 91, some 92, some 93, some 94, some 95, some 96, some 97, some 98, some 99, some 100, some 101, some 102, some 103, some 104, some 105, some 106, none, none, none, none, some 107, some 108, some 109, some 110, some 111, some 112, some 113, some 114, some 115, some 116, some 117, some 118, some 119, none, none, none, none, some 120, some 121, none, none, none, some 122, some 123, some 124, some 125, none, none, some 126, some 127, some 128, some 129, some 130, some 131, some 132, some 133, some 134, some 135, some 136, some 137, some 138, some 139, some 140, some 141, some 142, some 143, some 144, some 145, some 146, some 147, some 148, none, none, some 149, some 150, some 151, none])) := by decide +kernel
theorem la_87 : LAY[87]? = some (.inr (0, 8)) := by decide +kernel
theorem la_88 : LAY[88]? = some (.inr (0, 5)) := by decide +kernel
theorem la_89 : LAY[89]? = some (.inr (0, 5)) := by decide +kernel
theorem la_90 : LAY[90]? = some (.inr (0, 5)) := by decide +kernel
theorem la_91 : LAY[91]? = some (.inr (0, 40)) := by decide +kernel
theorem la_92 : LAY[92]? = some (.inr (0, 12)) := by decide +kernel
theorem la_93 : LAY[93]? = some (.inr (0, 12)) := by decide +kernel
theorem la_94 : LAY[94]? = some (.inr (0, 12)) := by decide +kernel
theorem la_95 : LAY[95]? = some (.inr (0, 8)) := by decide +kernel
theorem la_96 : LAY[96]? = some (.inr (0, 24)) := by decide +kernel
theorem la_97 : LAY[97]? = some (.inr (0, 8)) := by decide +kernel
theorem la_98 : LAY[98]? = some (.inr (0, 15)) := by decide +kernel
theorem la_99 : LAY[99]? = some (.inr (0, 15)) := by decide +kernel
theorem la_100 : LAY[100]? = some (.inr (0, 15)) := by decide +kernel
theorem la_101 : LAY[101]? = some (.inr (0, 24)) := by decide +kernel
theorem la_102 : LAY[102]? = some (.inr (0, 3)) := by decide +kernel
theorem la_103 : LAY[103]? = some (.inr (0, 3)) := by decide +kernel
theorem la_104 : LAY[104]? = some (.inr (1, 12)) := by decide +kernel
theorem la_105 : LAY[105]? = some (.inr (1, 8)) := by decide +kernel
theorem la_106 : LAY[106]? = some (.inr (1, 8)) := by decide +kernel
theorem la_107 : LAY[107]? = some (.inr (0, 36)) := by decide +kernel
theorem la_108 : LAY[108]? = some (.inr (0, 36)) := by decide +kernel
theorem la_109 : LAY[109]? = some (.inr (0, 15)) := by decide +kernel
theorem la_110 : LAY[110]? = some (.inr (0, 15)) := by decide +kernel
theorem la_111 : LAY[111]? = some (.inr (0, 24)) := by decide +kernel
theorem la_112 : LAY[112]? = some (.inr (0, 3)) := by decide +kernel
theorem la_113 : LAY[113]? = some (.inr (0, 3)) := by decide +kernel
theorem la_114 : LAY[114]? = some (.inr (1, 8)) := by decide +kernel
theorem la_115 : LAY[115]? = some (.inr (0, 40)) := by decide +kernel
theorem la_116 : LAY[116]? = some (.inr (0, 640)) := by decide +kernel
theorem la_117 : LAY[117]? = some (.inr (0, 16)) := by decide +kernel
theorem la_118 : LAY[118]? = some (.inr (0, 8)) := by decide +kernel
theorem la_119 : LAY[119]? = some (.inr (1, 16)) := by decide +kernel
theorem la_120 : LAY[120]? = some (.inr (0, 40)) := by decide +kernel
theorem la_121 : LAY[121]? = some (.inr (0, 40)) := by decide +kernel
theorem la_122 : LAY[122]? = some (.inr (0, 30)) := by decide +kernel
theorem la_123 : LAY[123]? = some (.inr (0, 30)) := by decide +kernel
theorem la_124 : LAY[124]? = some (.inr (0, 30)) := by decide +kernel
theorem la_125 : LAY[125]? = some (.inr (0, 30)) := by decide +kernel
theorem la_126 : LAY[126]? = some (.inr (0, 6)) := by decide +kernel
theorem la_127 : LAY[127]? = some (.inr (0, 6)) := by decide +kernel
theorem la_128 : LAY[128]? = some (.inr (2, 30)) := by decide +kernel
theorem la_129 : LAY[129]? = some (.inr (0, 5)) := by decide +kernel
theorem la_130 : LAY[130]? = some (.inr (0, 5)) := by decide +kernel
theorem la_131 : LAY[131]? = some (.inr (1, 5)) := by decide +kernel
theorem la_132 : LAY[132]? = some (.inr (1, 25)) := by decide +kernel
theorem la_133 : LAY[133]? = some (.inr (0, 25)) := by decide +kernel
theorem la_134 : LAY[134]? = some (.inr (0, 25)) := by decide +kernel
theorem la_135 : LAY[135]? = some (.inr (0, 4)) := by decide +kernel
theorem la_136 : LAY[136]? = some (.inr (0, 4)) := by decide +kernel
theorem la_137 : LAY[137]? = some (.inr (0, 9)) := by decide +kernel
theorem la_138 : LAY[138]? = some (.inr (0, 3)) := by decide +kernel
theorem la_139 : LAY[139]? = some (.inr (0, 4)) := by decide +kernel
theorem la_140 : LAY[140]? = some (.inr (0, 4)) := by decide +kernel
theorem la_141 : LAY[141]? = some (.inr (0, 4)) := by decide +kernel
theorem la_142 : LAY[142]? = some (.inr (0, 4)) := by decide +kernel
theorem la_143 : LAY[143]? = some (.inr (0, 8)) := by decide +kernel
theorem la_144 : LAY[144]? = some (.inr (0, 20)) := by decide +kernel
theorem la_145 : LAY[145]? = some (.inr (0, 20)) := by decide +kernel
theorem la_146 : LAY[146]? = some (.inr (0, 20)) := by decide +kernel
theorem la_147 : LAY[147]? = some (.inr (0, 8)) := by decide +kernel
theorem la_148 : LAY[148]? = some (.inr (1, 20)) := by decide +kernel
theorem la_149 : LAY[149]? = some (.inr (0, 6)) := by decide +kernel
theorem la_150 : LAY[150]? = some (.inr (0, 6)) := by decide +kernel
theorem la_151 : LAY[151]? = some (.inr (0, 6)) := by decide +kernel
theorem cw_nat : Cond.native arraycopyName ∈ WT := wt_of (tb_3 (List.mem_of_getElem? (i := 56) (by decide +kernel))) rfl
theorem cw_sta : Cond.static arraycopyName ∈ WT := wt_of (tb_3 (List.mem_of_getElem? (i := 55) (by decide +kernel))) rfl
theorem cw_ini : Cond.initialized "java/lang/System" ∈ WT := wt_of (tb_1 (List.mem_of_getElem? (i := 15) (by decide +kernel))) rfl
theorem ml_L_9 : Cond.methodLink "NearNothingLaw" 9 yX11_init ∈ WT := wt_of (tb_1 (List.mem_of_getElem? (i := 20) (by decide +kernel))) rfl
theorem ml_11_1 : Cond.methodLink RX11 1 objectInit ∈ WT := wt_of (tb_1 (List.mem_of_getElem? (i := 23) (by decide +kernel))) rfl
theorem ml_11_9 : Cond.methodLinkNest RX11 9 yX5_init "NearNothing" ∈ lw_tbl := tb_1 (List.mem_of_getElem? (i := 28) (by decide +kernel))
theorem ml_5_3 : Cond.methodLink RX5 3 objectInit ∈ WT := wt_of (tb_1 (List.mem_of_getElem? (i := 31) (by decide +kernel))) rfl
theorem fl_5_45 : Cond.fieldLink RX5 45 (TX5 0).1 (TX5 0).2.1 (TX5 0).2.2.1 ∈ WT := wt_of (tb_1 (List.mem_of_getElem? (i := 32) (by decide +kernel))) rfl
theorem fl_11_103 : Cond.fieldLink RX11 103 (TX5 0).1 (TX5 0).2.1 (TX5 0).2.2.1 ∈ WT := wt_of (tb_1 (List.mem_of_getElem? (i := 33) (by decide +kernel))) rfl
theorem fl_7_82 : Cond.fieldLink RX7 82 (TX5 0).1 (TX5 0).2.1 (TX5 0).2.2.1 ∈ WT := wt_of (tb_1 (List.mem_of_getElem? (i := 34) (by decide +kernel))) rfl
theorem fl_4_56 : Cond.fieldLink RX4 56 (TX5 0).1 (TX5 0).2.1 (TX5 0).2.2.1 ∈ WT := wt_of (tb_1 (List.mem_of_getElem? (i := 35) (by decide +kernel))) rfl
theorem fl_8_68 : Cond.fieldLink RX8 68 (TX5 0).1 (TX5 0).2.1 (TX5 0).2.2.1 ∈ WT := wt_of (tb_1 (List.mem_of_getElem? (i := 36) (by decide +kernel))) rfl
theorem fl_5_9 : Cond.fieldLink RX5 9 (TX5 1).1 (TX5 1).2.1 (TX5 1).2.2.1 ∈ WT := wt_of (tb_1 (List.mem_of_getElem? (i := 37) (by decide +kernel))) rfl
theorem fl_5_15 : Cond.fieldLink RX5 15 (TX5 2).1 (TX5 2).2.1 (TX5 2).2.2.1 ∈ WT := wt_of (tb_1 (List.mem_of_getElem? (i := 38) (by decide +kernel))) rfl
theorem fl_5_18 : Cond.fieldLink RX5 18 (TX5 3).1 (TX5 3).2.1 (TX5 3).2.2.1 ∈ WT := wt_of (tb_1 (List.mem_of_getElem? (i := 39) (by decide +kernel))) rfl
theorem fl_11_118 : Cond.fieldLink RX11 118 (TX5 3).1 (TX5 3).2.1 (TX5 3).2.2.1 ∈ WT := wt_of (tb_1 (List.mem_of_getElem? (i := 40) (by decide +kernel))) rfl
theorem fl_8_79 : Cond.fieldLink RX8 79 (TX5 3).1 (TX5 3).2.1 (TX5 3).2.2.1 ∈ WT := wt_of (tb_1 (List.mem_of_getElem? (i := 41) (by decide +kernel))) rfl
theorem fl_5_21 : Cond.fieldLink RX5 21 (TX5 4).1 (TX5 4).2.1 (TX5 4).2.2.1 ∈ WT := wt_of (tb_1 (List.mem_of_getElem? (i := 42) (by decide +kernel))) rfl
theorem fl_11_132 : Cond.fieldLink RX11 132 (TX5 4).1 (TX5 4).2.1 (TX5 4).2.2.1 ∈ WT := wt_of (tb_1 (List.mem_of_getElem? (i := 43) (by decide +kernel))) rfl
theorem fl_5_24 : Cond.fieldLink RX5 24 (TX5 5).1 (TX5 5).2.1 (TX5 5).2.2.1 ∈ WT := wt_of (tb_1 (List.mem_of_getElem? (i := 44) (by decide +kernel))) rfl
theorem fl_7_87 : Cond.fieldLink RX7 87 (TX5 5).1 (TX5 5).2.1 (TX5 5).2.2.1 ∈ WT := wt_of (tb_1 (List.mem_of_getElem? (i := 45) (by decide +kernel))) rfl
theorem fl_11_149 : Cond.fieldLink RX11 149 (TX5 5).1 (TX5 5).2.1 (TX5 5).2.2.1 ∈ WT := wt_of (tb_1 (List.mem_of_getElem? (i := 46) (by decide +kernel))) rfl
theorem fl_4_111 : Cond.fieldLink RX4 111 (TX5 5).1 (TX5 5).2.1 (TX5 5).2.2.1 ∈ WT := wt_of (tb_1 (List.mem_of_getElem? (i := 47) (by decide +kernel))) rfl
theorem fl_5_49 : Cond.fieldLink RX5 49 (TX5 6).1 (TX5 6).2.1 (TX5 6).2.2.1 ∈ WT := wt_of (tb_1 (List.mem_of_getElem? (i := 48) (by decide +kernel))) rfl
theorem fl_11_135 : Cond.fieldLink RX11 135 (TX5 6).1 (TX5 6).2.1 (TX5 6).2.2.1 ∈ WT := wt_of (tb_1 (List.mem_of_getElem? (i := 49) (by decide +kernel))) rfl
theorem fl_4_76 : Cond.fieldLink RX4 76 (TX5 6).1 (TX5 6).2.1 (TX5 6).2.2.1 ∈ WT := wt_of (tb_1 (List.mem_of_getElem? (i := 50) (by decide +kernel))) rfl
theorem fl_7_90 : Cond.fieldLink RX7 90 (TX5 6).1 (TX5 6).2.1 (TX5 6).2.2.1 ∈ WT := wt_of (tb_1 (List.mem_of_getElem? (i := 51) (by decide +kernel))) rfl
theorem fl_5_27 : Cond.fieldLink RX5 27 (TX5 7).1 (TX5 7).2.1 (TX5 7).2.2.1 ∈ WT := wt_of (tb_1 (List.mem_of_getElem? (i := 52) (by decide +kernel))) rfl
theorem fl_4_82 : Cond.fieldLink RX4 82 (TX5 7).1 (TX5 7).2.1 (TX5 7).2.2.1 ∈ WT := wt_of (tb_1 (List.mem_of_getElem? (i := 53) (by decide +kernel))) rfl
theorem fl_7_96 : Cond.fieldLink RX7 96 (TX5 7).1 (TX5 7).2.1 (TX5 7).2.2.1 ∈ WT := wt_of (tb_1 (List.mem_of_getElem? (i := 54) (by decide +kernel))) rfl
theorem fl_5_30 : Cond.fieldLink RX5 30 (TX5 8).1 (TX5 8).2.1 (TX5 8).2.2.1 ∈ WT := wt_of (tb_1 (List.mem_of_getElem? (i := 55) (by decide +kernel))) rfl
theorem fl_4_85 : Cond.fieldLink RX4 85 (TX5 8).1 (TX5 8).2.1 (TX5 8).2.2.1 ∈ WT := wt_of (tb_1 (List.mem_of_getElem? (i := 56) (by decide +kernel))) rfl
theorem fl_7_99 : Cond.fieldLink RX7 99 (TX5 8).1 (TX5 8).2.1 (TX5 8).2.2.1 ∈ WT := wt_of (tb_1 (List.mem_of_getElem? (i := 57) (by decide +kernel))) rfl
theorem fl_5_33 : Cond.fieldLink RX5 33 (TX5 9).1 (TX5 9).2.1 (TX5 9).2.2.1 ∈ WT := wt_of (tb_1 (List.mem_of_getElem? (i := 58) (by decide +kernel))) rfl
theorem fl_4_88 : Cond.fieldLink RX4 88 (TX5 9).1 (TX5 9).2.1 (TX5 9).2.2.1 ∈ WT := wt_of (tb_1 (List.mem_of_getElem? (i := 59) (by decide +kernel))) rfl
theorem fl_7_123 : Cond.fieldLink RX7 123 (TX5 9).1 (TX5 9).2.1 (TX5 9).2.2.1 ∈ WT := wt_of (tb_1 (List.mem_of_getElem? (i := 60) (by decide +kernel))) rfl
theorem fl_0_38 : Cond.fieldLink RX0 38 (TX5 10).1 (TX5 10).2.1 (TX5 10).2.2.1 ∈ WT := wt_of (tb_1 (List.mem_of_getElem? (i := 61) (by decide +kernel))) rfl
theorem fl_4_79 : Cond.fieldLink RX4 79 (TX5 10).1 (TX5 10).2.1 (TX5 10).2.2.1 ∈ WT := wt_of (tb_1 (List.mem_of_getElem? (i := 62) (by decide +kernel))) rfl
theorem fl_8_82 : Cond.fieldLink RX8 82 (TX5 10).1 (TX5 10).2.1 (TX5 10).2.2.1 ∈ WT := wt_of (tb_1 (List.mem_of_getElem? (i := 63) (by decide +kernel))) rfl
theorem fl_7_93 : Cond.fieldLink RX7 93 (TX5 10).1 (TX5 10).2.1 (TX5 10).2.2.1 ∈ WT := wt_of (tb_1 (List.mem_of_getElem? (i := 64) (by decide +kernel))) rfl
theorem fl_11_220 : Cond.fieldLink RX11 220 (TX5 10).1 (TX5 10).2.1 (TX5 10).2.2.1 ∈ WT := wt_of (tb_1 (List.mem_of_getElem? (i := 65) (by decide +kernel))) rfl
theorem fl_5_52 : Cond.fieldLink RX5 52 (TX5 11).1 (TX5 11).2.1 (TX5 11).2.2.1 ∈ WT := wt_of (tb_1 (List.mem_of_getElem? (i := 66) (by decide +kernel))) rfl
theorem fl_4_63 : Cond.fieldLink RX4 63 (TX5 11).1 (TX5 11).2.1 (TX5 11).2.2.1 ∈ WT := wt_of (tb_1 (List.mem_of_getElem? (i := 67) (by decide +kernel))) rfl
theorem fl_11_142 : Cond.fieldLink RX11 142 (TX5 11).1 (TX5 11).2.1 (TX5 11).2.2.1 ∈ WT := wt_of (tb_1 (List.mem_of_getElem? (i := 68) (by decide +kernel))) rfl
theorem fl_7_110 : Cond.fieldLink RX7 110 (TX5 11).1 (TX5 11).2.1 (TX5 11).2.2.1 ∈ WT := wt_of (tb_1 (List.mem_of_getElem? (i := 69) (by decide +kernel))) rfl
theorem fl_5_36 : Cond.fieldLink RX5 36 (TX5 12).1 (TX5 12).2.1 (TX5 12).2.2.1 ∈ WT := wt_of (tb_1 (List.mem_of_getElem? (i := 70) (by decide +kernel))) rfl
theorem fl_7_116 : Cond.fieldLink RX7 116 (TX5 12).1 (TX5 12).2.1 (TX5 12).2.2.1 ∈ WT := wt_of (tb_1 (List.mem_of_getElem? (i := 71) (by decide +kernel))) rfl
theorem fl_4_114 : Cond.fieldLink RX4 114 (TX5 12).1 (TX5 12).2.1 (TX5 12).2.2.1 ∈ WT := wt_of (tb_1 (List.mem_of_getElem? (i := 72) (by decide +kernel))) rfl
theorem fl_5_39 : Cond.fieldLink RX5 39 (TX5 13).1 (TX5 13).2.1 (TX5 13).2.2.1 ∈ WT := wt_of (tb_1 (List.mem_of_getElem? (i := 73) (by decide +kernel))) rfl
theorem fl_7_113 : Cond.fieldLink RX7 113 (TX5 13).1 (TX5 13).2.1 (TX5 13).2.2.1 ∈ WT := wt_of (tb_1 (List.mem_of_getElem? (i := 74) (by decide +kernel))) rfl
theorem fl_4_117 : Cond.fieldLink RX4 117 (TX5 13).1 (TX5 13).2.1 (TX5 13).2.2.1 ∈ WT := wt_of (tb_1 (List.mem_of_getElem? (i := 75) (by decide +kernel))) rfl
theorem fl_5_42 : Cond.fieldLink RX5 42 (TX5 14).1 (TX5 14).2.1 (TX5 14).2.2.1 ∈ WT := wt_of (tb_1 (List.mem_of_getElem? (i := 76) (by decide +kernel))) rfl
theorem fl_4_66 : Cond.fieldLink RX4 66 (TX5 14).1 (TX5 14).2.1 (TX5 14).2.2.1 ∈ WT := wt_of (tb_1 (List.mem_of_getElem? (i := 77) (by decide +kernel))) rfl
theorem fl_11_168 : Cond.fieldLink RX11 168 (TX5 14).1 (TX5 14).2.1 (TX5 14).2.2.1 ∈ WT := wt_of (tb_1 (List.mem_of_getElem? (i := 78) (by decide +kernel))) rfl
theorem fl_0_29 : Cond.fieldLink RX0 29 (TX5 15).1 (TX5 15).2.1 (TX5 15).2.2.1 ∈ WT := wt_of (tb_1 (List.mem_of_getElem? (i := 79) (by decide +kernel))) rfl
theorem fl_4_95 : Cond.fieldLink RX4 95 (TX5 15).1 (TX5 15).2.1 (TX5 15).2.2.1 ∈ WT := wt_of (tb_1 (List.mem_of_getElem? (i := 80) (by decide +kernel))) rfl
theorem fl_7_117 : Cond.fieldLink RX7 117 (TX5 15).1 (TX5 15).2.1 (TX5 15).2.2.1 ∈ WT := wt_of (tb_1 (List.mem_of_getElem? (i := 81) (by decide +kernel))) rfl
theorem fl_11_162 : Cond.fieldLink RX11 162 (TX5 15).1 (TX5 15).2.1 (TX5 15).2.2.1 ∈ WT := wt_of (tb_1 (List.mem_of_getElem? (i := 82) (by decide +kernel))) rfl
theorem ml_11_18 : Cond.methodLinkNest RX11 18 yX4_init "NearNothing" ∈ lw_tbl := tb_1 (List.mem_of_getElem? (i := 119) (by decide +kernel))
theorem ml_4_3 : Cond.methodLink RX4 3 objectInit ∈ WT := wt_of (tb_1 (List.mem_of_getElem? (i := 122) (by decide +kernel))) rfl
theorem fl_4_27 : Cond.fieldLink RX4 27 (TX4 0).1 (TX4 0).2.1 (TX4 0).2.2.1 ∈ WT := wt_of (tb_1 (List.mem_of_getElem? (i := 123) (by decide +kernel))) rfl
theorem fl_8_85 : Cond.fieldLink RX8 85 (TX4 0).1 (TX4 0).2.1 (TX4 0).2.2.1 ∈ WT := wt_of (tb_1 (List.mem_of_getElem? (i := 124) (by decide +kernel))) rfl
theorem fl_11_152 : Cond.fieldLink RX11 152 (TX4 0).1 (TX4 0).2.1 (TX4 0).2.2.1 ∈ WT := wt_of (tb_1 (List.mem_of_getElem? (i := 125) (by decide +kernel))) rfl
theorem fl_4_31 : Cond.fieldLink RX4 31 (TX4 1).1 (TX4 1).2.1 (TX4 1).2.2.1 ∈ WT := wt_of (tb_1 (List.mem_of_getElem? (i := 126) (by decide +kernel))) rfl
theorem fl_0_41 : Cond.fieldLink RX0 41 (TX4 1).1 (TX4 1).2.1 (TX4 1).2.2.1 ∈ WT := wt_of (tb_1 (List.mem_of_getElem? (i := 127) (by decide +kernel))) rfl
theorem fl_11_165 : Cond.fieldLink RX11 165 (TX4 1).1 (TX4 1).2.1 (TX4 1).2.2.1 ∈ WT := wt_of (tb_1 (List.mem_of_getElem? (i := 128) (by decide +kernel))) rfl
theorem fl_4_9 : Cond.fieldLink RX4 9 (TX4 2).1 (TX4 2).2.1 (TX4 2).2.2.1 ∈ WT := wt_of (tb_1 (List.mem_of_getElem? (i := 129) (by decide +kernel))) rfl
theorem fl_4_15 : Cond.fieldLink RX4 15 (TX4 3).1 (TX4 3).2.1 (TX4 3).2.2.1 ∈ WT := wt_of (tb_1 (List.mem_of_getElem? (i := 130) (by decide +kernel))) rfl
theorem fl_4_18 : Cond.fieldLink RX4 18 (TX4 4).1 (TX4 4).2.1 (TX4 4).2.2.1 ∈ WT := wt_of (tb_1 (List.mem_of_getElem? (i := 131) (by decide +kernel))) rfl
theorem fl_11_171 : Cond.fieldLink RX11 171 (TX4 4).1 (TX4 4).2.1 (TX4 4).2.2.1 ∈ WT := wt_of (tb_1 (List.mem_of_getElem? (i := 132) (by decide +kernel))) rfl
theorem fl_4_21 : Cond.fieldLink RX4 21 (TX4 5).1 (TX4 5).2.1 (TX4 5).2.2.1 ∈ WT := wt_of (tb_1 (List.mem_of_getElem? (i := 133) (by decide +kernel))) rfl
theorem fl_4_24 : Cond.fieldLink RX4 24 (TX4 6).1 (TX4 6).2.1 (TX4 6).2.2.1 ∈ WT := wt_of (tb_1 (List.mem_of_getElem? (i := 134) (by decide +kernel))) rfl
theorem ml_11_28 : Cond.methodLinkNest RX11 28 yX0_init "NearNothing" ∈ lw_tbl := tb_1 (List.mem_of_getElem? (i := 152) (by decide +kernel))
theorem ml_0_1 : Cond.methodLink RX0 1 objectInit ∈ WT := wt_of (tb_1 (List.mem_of_getElem? (i := 155) (by decide +kernel))) rfl
theorem fl_0_9 : Cond.fieldLink RX0 9 (TX0 0).1 (TX0 0).2.1 (TX0 0).2.2.1 ∈ WT := wt_of (tb_1 (List.mem_of_getElem? (i := 156) (by decide +kernel))) rfl
theorem fl_0_13 : Cond.fieldLink RX0 13 (TX0 1).1 (TX0 1).2.1 (TX0 1).2.2.1 ∈ WT := wt_of (tb_1 (List.mem_of_getElem? (i := 157) (by decide +kernel))) rfl
theorem fl_0_16 : Cond.fieldLink RX0 16 (TX0 2).1 (TX0 2).2.1 (TX0 2).2.2.1 ∈ WT := wt_of (tb_1 (List.mem_of_getElem? (i := 158) (by decide +kernel))) rfl
theorem fl_0_19 : Cond.fieldLink RX0 19 (TX0 3).1 (TX0 3).2.1 (TX0 3).2.2.1 ∈ WT := wt_of (tb_1 (List.mem_of_getElem? (i := 159) (by decide +kernel))) rfl
theorem fl_11_319 : Cond.fieldLink RX11 319 (TX0 3).1 (TX0 3).2.1 (TX0 3).2.2.1 ∈ WT := wt_of (tb_1 (List.mem_of_getElem? (i := 160) (by decide +kernel))) rfl
theorem fl_0_23 : Cond.fieldLink RX0 23 (TX0 4).1 (TX0 4).2.1 (TX0 4).2.2.1 ∈ WT := wt_of (tb_1 (List.mem_of_getElem? (i := 161) (by decide +kernel))) rfl
theorem ml_11_35 : Cond.methodLinkNest RX11 35 yX6_init "NearNothing" ∈ lw_tbl := tb_1 (List.mem_of_getElem? (i := 175) (by decide +kernel))
theorem ml_6_3 : Cond.methodLink RX6 3 objectInit ∈ WT := wt_of (tb_1 (List.mem_of_getElem? (i := 178) (by decide +kernel))) rfl
theorem fl_6_9 : Cond.fieldLink RX6 9 (TX6 0).1 (TX6 0).2.1 (TX6 0).2.2.1 ∈ WT := wt_of (tb_1 (List.mem_of_getElem? (i := 179) (by decide +kernel))) rfl
theorem fl_6_18 : Cond.fieldLink RX6 18 (TX6 1).1 (TX6 1).2.1 (TX6 1).2.2.1 ∈ WT := wt_of (tb_1 (List.mem_of_getElem? (i := 180) (by decide +kernel))) rfl
theorem fl_11_183 : Cond.fieldLink RX11 183 (TX6 1).1 (TX6 1).2.1 (TX6 1).2.2.1 ∈ WT := wt_of (tb_1 (List.mem_of_getElem? (i := 181) (by decide +kernel))) rfl
theorem fl_6_27 : Cond.fieldLink RX6 27 (TX6 2).1 (TX6 2).2.1 (TX6 2).2.2.1 ∈ WT := wt_of (tb_1 (List.mem_of_getElem? (i := 182) (by decide +kernel))) rfl
theorem fl_11_201 : Cond.fieldLink RX11 201 (TX6 2).1 (TX6 2).2.1 (TX6 2).2.2.1 ∈ WT := wt_of (tb_1 (List.mem_of_getElem? (i := 183) (by decide +kernel))) rfl
theorem fl_6_33 : Cond.fieldLink RX6 33 (TX6 3).1 (TX6 3).2.1 (TX6 3).2.2.1 ∈ WT := wt_of (tb_1 (List.mem_of_getElem? (i := 184) (by decide +kernel))) rfl
theorem fl_8_55 : Cond.fieldLink RX8 55 (TX6 4).1 (TX6 4).2.1 (TX6 4).2.2.1 ∈ WT := wt_of (tb_1 (List.mem_of_getElem? (i := 185) (by decide +kernel))) rfl
theorem fl_6_36 : Cond.fieldLink RX6 36 (TX6 4).1 (TX6 4).2.1 (TX6 4).2.2.1 ∈ WT := wt_of (tb_1 (List.mem_of_getElem? (i := 186) (by decide +kernel))) rfl
theorem fl_8_35 : Cond.fieldLink RX8 35 (TX6 5).1 (TX6 5).2.1 (TX6 5).2.2.1 ∈ WT := wt_of (tb_1 (List.mem_of_getElem? (i := 187) (by decide +kernel))) rfl
theorem fl_6_48 : Cond.fieldLink RX6 48 (TX6 5).1 (TX6 5).2.1 (TX6 5).2.2.1 ∈ WT := wt_of (tb_1 (List.mem_of_getElem? (i := 188) (by decide +kernel))) rfl
theorem fl_6_15 : Cond.fieldLink RX6 15 (TX6 6).1 (TX6 6).2.1 (TX6 6).2.2.1 ∈ WT := wt_of (tb_1 (List.mem_of_getElem? (i := 189) (by decide +kernel))) rfl
theorem fl_8_41 : Cond.fieldLink RX8 41 (TX6 6).1 (TX6 6).2.1 (TX6 6).2.2.1 ∈ WT := wt_of (tb_1 (List.mem_of_getElem? (i := 190) (by decide +kernel))) rfl
theorem fl_8_39 : Cond.fieldLink RX8 39 (TX6 7).1 (TX6 7).2.1 (TX6 7).2.2.1 ∈ WT := wt_of (tb_1 (List.mem_of_getElem? (i := 191) (by decide +kernel))) rfl
theorem fl_6_24 : Cond.fieldLink RX6 24 (TX6 7).1 (TX6 7).2.1 (TX6 7).2.2.1 ∈ WT := wt_of (tb_1 (List.mem_of_getElem? (i := 192) (by decide +kernel))) rfl
theorem ml_11_42 : Cond.methodLink RX11 42 yX8_init ∈ WT := wt_of (tb_1 (List.mem_of_getElem? (i := 212) (by decide +kernel))) rfl
theorem ml_8_3 : Cond.methodLink RX8 3 objectInit ∈ WT := wt_of (tb_1 (List.mem_of_getElem? (i := 215) (by decide +kernel))) rfl
theorem fl_8_23 : Cond.fieldLink RX8 23 (TX8 0).1 (TX8 0).2.1 (TX8 0).2.2.1 ∈ WT := wt_of (tb_1 (List.mem_of_getElem? (i := 218) (by decide +kernel))) rfl
theorem fl_8_27 : Cond.fieldLink RX8 27 (TX8 1).1 (TX8 1).2.1 (TX8 1).2.2.1 ∈ WT := wt_of (tb_1 (List.mem_of_getElem? (i := 219) (by decide +kernel))) rfl
theorem fl_8_31 : Cond.fieldLink RX8 31 (TX8 2).1 (TX8 2).2.1 (TX8 2).2.2.1 ∈ WT := wt_of (tb_1 (List.mem_of_getElem? (i := 220) (by decide +kernel))) rfl
theorem fl_11_190 : Cond.fieldLink RX11 190 (TX8 2).1 (TX8 2).2.1 (TX8 2).2.2.1 ∈ WT := wt_of (tb_1 (List.mem_of_getElem? (i := 221) (by decide +kernel))) rfl
theorem fl_8_49 : Cond.fieldLink RX8 49 (TX8 3).1 (TX8 3).2.1 (TX8 3).2.2.1 ∈ WT := wt_of (tb_1 (List.mem_of_getElem? (i := 222) (by decide +kernel))) rfl
theorem fl_11_316 : Cond.fieldLink RX11 316 (TX8 3).1 (TX8 3).2.1 (TX8 3).2.2.1 ∈ WT := wt_of (tb_1 (List.mem_of_getElem? (i := 223) (by decide +kernel))) rfl
theorem fl_8_52 : Cond.fieldLink RX8 52 (TX8 4).1 (TX8 4).2.1 (TX8 4).2.2.1 ∈ WT := wt_of (tb_1 (List.mem_of_getElem? (i := 224) (by decide +kernel))) rfl
theorem fl_8_9 : Cond.fieldLink RX8 9 (TX8 5).1 (TX8 5).2.1 (TX8 5).2.2.1 ∈ WT := wt_of (tb_1 (List.mem_of_getElem? (i := 225) (by decide +kernel))) rfl
theorem fl_8_15 : Cond.fieldLink RX8 15 (TX8 6).1 (TX8 6).2.1 (TX8 6).2.2.1 ∈ WT := wt_of (tb_1 (List.mem_of_getElem? (i := 226) (by decide +kernel))) rfl
theorem fl_8_20 : Cond.fieldLink RX8 20 (TX8 7).1 (TX8 7).2.1 (TX8 7).2.2.1 ∈ WT := wt_of (tb_1 (List.mem_of_getElem? (i := 227) (by decide +kernel))) rfl
theorem ml_11_51 : Cond.methodLink RX11 51 yX10_init ∈ WT := wt_of (tb_2 (List.mem_of_getElem? (i := 7) (by decide +kernel))) rfl
theorem ml_10_3 : Cond.methodLink RX10 3 objectInit ∈ WT := wt_of (tb_2 (List.mem_of_getElem? (i := 10) (by decide +kernel))) rfl
theorem fl_10_15 : Cond.fieldLink RX10 15 (TX10 0).1 (TX10 0).2.1 (TX10 0).2.2.1 ∈ WT := wt_of (tb_2 (List.mem_of_getElem? (i := 11) (by decide +kernel))) rfl
theorem fl_10_9 : Cond.fieldLink RX10 9 (TX10 1).1 (TX10 1).2.1 (TX10 1).2.2.1 ∈ WT := wt_of (tb_2 (List.mem_of_getElem? (i := 12) (by decide +kernel))) rfl
theorem ml_11_60 : Cond.methodLink RX11 60 yX7_init ∈ WT := wt_of (tb_2 (List.mem_of_getElem? (i := 21) (by decide +kernel))) rfl
theorem ml_7_3 : Cond.methodLink RX7 3 objectInit ∈ WT := wt_of (tb_2 (List.mem_of_getElem? (i := 24) (by decide +kernel))) rfl
theorem fl_7_37 : Cond.fieldLink RX7 37 (TX7 0).1 (TX7 0).2.1 (TX7 0).2.2.1 ∈ WT := wt_of (tb_2 (List.mem_of_getElem? (i := 25) (by decide +kernel))) rfl
theorem fl_7_9 : Cond.fieldLink RX7 9 (TX7 1).1 (TX7 1).2.1 (TX7 1).2.2.1 ∈ WT := wt_of (tb_2 (List.mem_of_getElem? (i := 26) (by decide +kernel))) rfl
theorem fl_7_15 : Cond.fieldLink RX7 15 (TX7 2).1 (TX7 2).2.1 (TX7 2).2.2.1 ∈ WT := wt_of (tb_2 (List.mem_of_getElem? (i := 27) (by decide +kernel))) rfl
theorem fl_7_18 : Cond.fieldLink RX7 18 (TX7 3).1 (TX7 3).2.1 (TX7 3).2.2.1 ∈ WT := wt_of (tb_2 (List.mem_of_getElem? (i := 28) (by decide +kernel))) rfl
theorem fl_7_22 : Cond.fieldLink RX7 22 (TX7 4).1 (TX7 4).2.1 (TX7 4).2.2.1 ∈ WT := wt_of (tb_2 (List.mem_of_getElem? (i := 29) (by decide +kernel))) rfl
theorem fl_7_25 : Cond.fieldLink RX7 25 (TX7 5).1 (TX7 5).2.1 (TX7 5).2.2.1 ∈ WT := wt_of (tb_2 (List.mem_of_getElem? (i := 30) (by decide +kernel))) rfl
theorem fl_7_41 : Cond.fieldLink RX7 41 (TX7 6).1 (TX7 6).2.1 (TX7 6).2.2.1 ∈ WT := wt_of (tb_2 (List.mem_of_getElem? (i := 31) (by decide +kernel))) rfl
theorem fl_11_307 : Cond.fieldLink RX11 307 (TX7 6).1 (TX7 6).2.1 (TX7 6).2.2.1 ∈ WT := wt_of (tb_2 (List.mem_of_getElem? (i := 32) (by decide +kernel))) rfl
theorem fl_7_28 : Cond.fieldLink RX7 28 (TX7 7).1 (TX7 7).2.1 (TX7 7).2.2.1 ∈ WT := wt_of (tb_2 (List.mem_of_getElem? (i := 33) (by decide +kernel))) rfl
theorem fl_7_31 : Cond.fieldLink RX7 31 (TX7 8).1 (TX7 8).2.1 (TX7 8).2.2.1 ∈ WT := wt_of (tb_2 (List.mem_of_getElem? (i := 34) (by decide +kernel))) rfl
theorem fl_7_34 : Cond.fieldLink RX7 34 (TX7 9).1 (TX7 9).2.1 (TX7 9).2.2.1 ∈ WT := wt_of (tb_2 (List.mem_of_getElem? (i := 35) (by decide +kernel))) rfl
theorem ml_11_69 : Cond.methodLinkNest RX11 69 yX2_init "NearNothing" ∈ lw_tbl := tb_2 (List.mem_of_getElem? (i := 60) (by decide +kernel))
theorem ml_2_3 : Cond.methodLink RX2 3 objectInit ∈ WT := wt_of (tb_2 (List.mem_of_getElem? (i := 63) (by decide +kernel))) rfl
theorem fl_2_9 : Cond.fieldLink RX2 9 (TX2 0).1 (TX2 0).2.1 (TX2 0).2.2.1 ∈ WT := wt_of (tb_2 (List.mem_of_getElem? (i := 64) (by decide +kernel))) rfl
theorem fl_2_13 : Cond.fieldLink RX2 13 (TX2 1).1 (TX2 1).2.1 (TX2 1).2.2.1 ∈ WT := wt_of (tb_2 (List.mem_of_getElem? (i := 65) (by decide +kernel))) rfl
theorem fl_2_17 : Cond.fieldLink RX2 17 (TX2 2).1 (TX2 2).2.1 (TX2 2).2.2.1 ∈ WT := wt_of (tb_2 (List.mem_of_getElem? (i := 66) (by decide +kernel))) rfl
theorem fl_2_26 : Cond.fieldLink RX2 26 (TX2 3).1 (TX2 3).2.1 (TX2 3).2.2.1 ∈ WT := wt_of (tb_2 (List.mem_of_getElem? (i := 67) (by decide +kernel))) rfl
theorem fl_2_30 : Cond.fieldLink RX2 30 (TX2 4).1 (TX2 4).2.1 (TX2 4).2.2.1 ∈ WT := wt_of (tb_2 (List.mem_of_getElem? (i := 68) (by decide +kernel))) rfl
theorem ml_11_76 : Cond.methodLink RX11 76 yX3_init ∈ WT := wt_of (tb_2 (List.mem_of_getElem? (i := 82) (by decide +kernel))) rfl
theorem ml_3_3 : Cond.methodLink RX3 3 objectInit ∈ WT := wt_of (tb_2 (List.mem_of_getElem? (i := 85) (by decide +kernel))) rfl
theorem ml_3_24 : Cond.methodLink RX3 24 yJ7_fill_53178 ∈ WT := wt_of (tb_2 (List.mem_of_getElem? (i := 86) (by decide +kernel))) rfl
theorem fl_3_11 : Cond.fieldLink RX3 11 (TX3 0).1 (TX3 0).2.1 (TX3 0).2.2.1 ∈ WT := wt_of (tb_2 (List.mem_of_getElem? (i := 89) (by decide +kernel))) rfl
theorem fl_11_254 : Cond.fieldLink RX11 254 (TX3 0).1 (TX3 0).2.1 (TX3 0).2.2.1 ∈ WT := wt_of (tb_2 (List.mem_of_getElem? (i := 90) (by decide +kernel))) rfl
theorem fl_3_15 : Cond.fieldLink RX3 15 (TX3 1).1 (TX3 1).2.1 (TX3 1).2.2.1 ∈ WT := wt_of (tb_2 (List.mem_of_getElem? (i := 91) (by decide +kernel))) rfl
theorem fl_11_261 : Cond.fieldLink RX11 261 (TX3 1).1 (TX3 1).2.1 (TX3 1).2.2.1 ∈ WT := wt_of (tb_2 (List.mem_of_getElem? (i := 92) (by decide +kernel))) rfl
theorem fl_3_18 : Cond.fieldLink RX3 18 (TX3 2).1 (TX3 2).2.1 (TX3 2).2.2.1 ∈ WT := wt_of (tb_2 (List.mem_of_getElem? (i := 93) (by decide +kernel))) rfl
theorem fl_3_21 : Cond.fieldLink RX3 21 (TX3 3).1 (TX3 3).2.1 (TX3 3).2.2.1 ∈ WT := wt_of (tb_2 (List.mem_of_getElem? (i := 94) (by decide +kernel))) rfl
theorem fl_3_50 : Cond.fieldLink RX3 50 (TX3 4).1 (TX3 4).2.1 (TX3 4).2.2.1 ∈ WT := wt_of (tb_2 (List.mem_of_getElem? (i := 95) (by decide +kernel))) rfl
theorem fl_3_54 : Cond.fieldLink RX3 54 (TX3 5).1 (TX3 5).2.1 (TX3 5).2.2.1 ∈ WT := wt_of (tb_2 (List.mem_of_getElem? (i := 96) (by decide +kernel))) rfl
theorem ml_11_83 : Cond.methodLink RX11 83 yX1_init ∈ WT := wt_of (tb_2 (List.mem_of_getElem? (i := 112) (by decide +kernel))) rfl
theorem ml_1_3 : Cond.methodLink RX1 3 objectInit ∈ WT := wt_of (tb_2 (List.mem_of_getElem? (i := 115) (by decide +kernel))) rfl
theorem ml_1_24 : Cond.methodLink RX1 24 yJ7_fill_53178 ∈ WT := wt_of (tb_2 (List.mem_of_getElem? (i := 116) (by decide +kernel))) rfl
theorem fl_1_11 : Cond.fieldLink RX1 11 (TX1 0).1 (TX1 0).2.1 (TX1 0).2.2.1 ∈ WT := wt_of (tb_2 (List.mem_of_getElem? (i := 117) (by decide +kernel))) rfl
theorem fl_1_15 : Cond.fieldLink RX1 15 (TX1 1).1 (TX1 1).2.1 (TX1 1).2.2.1 ∈ WT := wt_of (tb_2 (List.mem_of_getElem? (i := 118) (by decide +kernel))) rfl
theorem fl_1_18 : Cond.fieldLink RX1 18 (TX1 2).1 (TX1 2).2.1 (TX1 2).2.2.1 ∈ WT := wt_of (tb_2 (List.mem_of_getElem? (i := 119) (by decide +kernel))) rfl
theorem fl_1_21 : Cond.fieldLink RX1 21 (TX1 3).1 (TX1 3).2.1 (TX1 3).2.2.1 ∈ WT := wt_of (tb_2 (List.mem_of_getElem? (i := 120) (by decide +kernel))) rfl
theorem ml_11_90 : Cond.methodLink RX11 90 yX9_init ∈ WT := wt_of (tb_2 (List.mem_of_getElem? (i := 132) (by decide +kernel))) rfl
theorem ml_9_3 : Cond.methodLink RX9 3 objectInit ∈ WT := wt_of (tb_2 (List.mem_of_getElem? (i := 135) (by decide +kernel))) rfl
theorem ml_9_34 : Cond.methodLink RX9 34 yJ7_fill_53178 ∈ WT := wt_of (tb_2 (List.mem_of_getElem? (i := 136) (by decide +kernel))) rfl
theorem fl_9_11 : Cond.fieldLink RX9 11 (TX9 0).1 (TX9 0).2.1 (TX9 0).2.2.1 ∈ WT := wt_of (tb_2 (List.mem_of_getElem? (i := 137) (by decide +kernel))) rfl
theorem fl_11_280 : Cond.fieldLink RX11 280 (TX9 0).1 (TX9 0).2.1 (TX9 0).2.2.1 ∈ WT := wt_of (tb_2 (List.mem_of_getElem? (i := 138) (by decide +kernel))) rfl
theorem fl_9_40 : Cond.fieldLink RX9 40 (TX9 1).1 (TX9 1).2.1 (TX9 1).2.2.1 ∈ WT := wt_of (tb_2 (List.mem_of_getElem? (i := 139) (by decide +kernel))) rfl
theorem fl_11_283 : Cond.fieldLink RX11 283 (TX9 1).1 (TX9 1).2.1 (TX9 1).2.2.1 ∈ WT := wt_of (tb_2 (List.mem_of_getElem? (i := 140) (by decide +kernel))) rfl
theorem fl_9_15 : Cond.fieldLink RX9 15 (TX9 2).1 (TX9 2).2.1 (TX9 2).2.2.1 ∈ WT := wt_of (tb_2 (List.mem_of_getElem? (i := 141) (by decide +kernel))) rfl
theorem fl_9_18 : Cond.fieldLink RX9 18 (TX9 3).1 (TX9 3).2.1 (TX9 3).2.2.1 ∈ WT := wt_of (tb_2 (List.mem_of_getElem? (i := 142) (by decide +kernel))) rfl
theorem fl_9_44 : Cond.fieldLink RX9 44 (TX9 4).1 (TX9 4).2.1 (TX9 4).2.2.1 ∈ WT := wt_of (tb_2 (List.mem_of_getElem? (i := 143) (by decide +kernel))) rfl
theorem fl_11_289 : Cond.fieldLink RX11 289 (TX9 4).1 (TX9 4).2.1 (TX9 4).2.2.1 ∈ WT := wt_of (tb_2 (List.mem_of_getElem? (i := 144) (by decide +kernel))) rfl
theorem fl_9_21 : Cond.fieldLink RX9 21 (TX9 5).1 (TX9 5).2.1 (TX9 5).2.2.1 ∈ WT := wt_of (tb_2 (List.mem_of_getElem? (i := 145) (by decide +kernel))) rfl
theorem fl_9_24 : Cond.fieldLink RX9 24 (TX9 6).1 (TX9 6).2.1 (TX9 6).2.2.1 ∈ WT := wt_of (tb_2 (List.mem_of_getElem? (i := 146) (by decide +kernel))) rfl
theorem fl_9_28 : Cond.fieldLink RX9 28 (TX9 7).1 (TX9 7).2.1 (TX9 7).2.2.1 ∈ WT := wt_of (tb_2 (List.mem_of_getElem? (i := 147) (by decide +kernel))) rfl
theorem fl_9_31 : Cond.fieldLink RX9 31 (TX9 8).1 (TX9 8).2.1 (TX9 8).2.2.1 ∈ WT := wt_of (tb_2 (List.mem_of_getElem? (i := 148) (by decide +kernel))) rfl
theorem fl_11_10 : Cond.fieldLink RX11 10 (TX11 0).1 (TX11 0).2.1 (TX11 0).2.2.1 ∈ WT := wt_of (tb_2 (List.mem_of_getElem? (i := 168) (by decide +kernel))) rfl
theorem fl_11_19 : Cond.fieldLink RX11 19 (TX11 1).1 (TX11 1).2.1 (TX11 1).2.2.1 ∈ WT := wt_of (tb_2 (List.mem_of_getElem? (i := 169) (by decide +kernel))) rfl
theorem fl_11_23 : Cond.fieldLink RX11 23 (TX11 2).1 (TX11 2).2.1 (TX11 2).2.2.1 ∈ WT := wt_of (tb_2 (List.mem_of_getElem? (i := 170) (by decide +kernel))) rfl
theorem fl_11_29 : Cond.fieldLink RX11 29 (TX11 3).1 (TX11 3).2.1 (TX11 3).2.2.1 ∈ WT := wt_of (tb_2 (List.mem_of_getElem? (i := 171) (by decide +kernel))) rfl
theorem fl_11_36 : Cond.fieldLink RX11 36 (TX11 4).1 (TX11 4).2.1 (TX11 4).2.2.1 ∈ WT := wt_of (tb_2 (List.mem_of_getElem? (i := 172) (by decide +kernel))) rfl
theorem fl_11_45 : Cond.fieldLink RX11 45 (TX11 5).1 (TX11 5).2.1 (TX11 5).2.2.1 ∈ WT := wt_of (tb_2 (List.mem_of_getElem? (i := 173) (by decide +kernel))) rfl
theorem fl_11_54 : Cond.fieldLink RX11 54 (TX11 6).1 (TX11 6).2.1 (TX11 6).2.2.1 ∈ WT := wt_of (tb_2 (List.mem_of_getElem? (i := 174) (by decide +kernel))) rfl
theorem fl_11_63 : Cond.fieldLink RX11 63 (TX11 7).1 (TX11 7).2.1 (TX11 7).2.2.1 ∈ WT := wt_of (tb_2 (List.mem_of_getElem? (i := 175) (by decide +kernel))) rfl
theorem fl_11_70 : Cond.fieldLink RX11 70 (TX11 8).1 (TX11 8).2.1 (TX11 8).2.2.1 ∈ WT := wt_of (tb_2 (List.mem_of_getElem? (i := 176) (by decide +kernel))) rfl
theorem fl_11_77 : Cond.fieldLink RX11 77 (TX11 9).1 (TX11 9).2.1 (TX11 9).2.2.1 ∈ WT := wt_of (tb_2 (List.mem_of_getElem? (i := 177) (by decide +kernel))) rfl
theorem fl_11_84 : Cond.fieldLink RX11 84 (TX11 10).1 (TX11 10).2.1 (TX11 10).2.2.1 ∈ WT := wt_of (tb_2 (List.mem_of_getElem? (i := 178) (by decide +kernel))) rfl
theorem fl_11_91 : Cond.fieldLink RX11 91 (TX11 11).1 (TX11 11).2.1 (TX11 11).2.2.1 ∈ WT := wt_of (tb_2 (List.mem_of_getElem? (i := 179) (by decide +kernel))) rfl
theorem fl_11_95 : Cond.fieldLink RX11 95 (TX11 12).1 (TX11 12).2.1 (TX11 12).2.2.1 ∈ WT := wt_of (tb_2 (List.mem_of_getElem? (i := 180) (by decide +kernel))) rfl
theorem ml_L_13 : Cond.methodLink "NearNothingLaw" 13 yX11_room ∈ WT := wt_of (tb_2 (List.mem_of_getElem? (i := 208) (by decide +kernel))) rfl
theorem ml_11_99 : Cond.methodLink RX11 99 yX11_within ∈ WT := wt_of (tb_2 (List.mem_of_getElem? (i := 212) (by decide +kernel))) rfl
theorem ml_11_107 : Cond.methodLink RX11 107 yX11_refusal ∈ WT := wt_of (tb_2 (List.mem_of_getElem? (i := 215) (by decide +kernel))) rfl
theorem ml_11_193 : Cond.methodLink RX11 193 yX11_refuse ∈ WT := wt_of (tb_2 (List.mem_of_getElem? (i := 219) (by decide +kernel))) rfl
theorem ml_11_111 : Cond.methodLink RX11 111 yX0_forget ∈ WT := wt_of (tb_2 (List.mem_of_getElem? (i := 223) (by decide +kernel))) rfl
theorem ml_11_114 : Cond.methodLink RX11 114 yX5_addRoom ∈ WT := wt_of (tb_2 (List.mem_of_getElem? (i := 227) (by decide +kernel))) rfl
theorem ml_L_18 : Cond.methodLink "NearNothingLaw" 18 yX11_warm ∈ WT := wt_of (tb_2 (List.mem_of_getElem? (i := 231) (by decide +kernel))) rfl
theorem ml_L_22 : Cond.methodLink "NearNothingLaw" 22 yX11_gas ∈ WT := wt_of (tb_2 (List.mem_of_getElem? (i := 235) (by decide +kernel))) rfl
theorem ml_11_121 : Cond.methodLink RX11 121 yX4_amount ∈ WT := wt_of (tb_2 (List.mem_of_getElem? (i := 239) (by decide +kernel))) rfl
theorem cw_11_125 : Cond.constant RX11 125 (99999 : Int32) ∈ WT := wt_of (tb_3 (List.mem_of_getElem? (i := 3) (by decide +kernel))) rfl
theorem cw_11_126 : Cond.constantLong RX11 126 (999999 : Int64) ∈ WT := wt_of (tb_3 (List.mem_of_getElem? (i := 4) (by decide +kernel))) rfl
theorem ml_11_128 : Cond.methodLink RX11 128 yX4_tell ∈ WT := wt_of (tb_3 (List.mem_of_getElem? (i := 5) (by decide +kernel))) rfl
theorem ml_L_27 : Cond.methodLink "NearNothingLaw" 27 yX11_gives ∈ WT := wt_of (tb_3 (List.mem_of_getElem? (i := 9) (by decide +kernel))) rfl
theorem ml_L_32 : Cond.methodLink "NearNothingLaw" 32 yX11_pipe ∈ WT := wt_of (tb_3 (List.mem_of_getElem? (i := 13) (by decide +kernel))) rfl
theorem ml_11_138 : Cond.methodLink RX11 138 yX5_addPipe ∈ WT := wt_of (tb_3 (List.mem_of_getElem? (i := 17) (by decide +kernel))) rfl
theorem ml_L_36 : Cond.methodLink "NearNothingLaw" 36 yX11_pump ∈ WT := wt_of (tb_3 (List.mem_of_getElem? (i := 21) (by decide +kernel))) rfl
theorem ml_11_145 : Cond.methodLink RX11 145 yX5_addPump ∈ WT := wt_of (tb_3 (List.mem_of_getElem? (i := 25) (by decide +kernel))) rfl
theorem ml_L_41 : Cond.methodLink "NearNothingLaw" 41 yX11_leak ∈ WT := wt_of (tb_3 (List.mem_of_getElem? (i := 29) (by decide +kernel))) rfl
theorem ml_L_45 : Cond.methodLink "NearNothingLaw" 45 yX11_ticks ∈ WT := wt_of (tb_3 (List.mem_of_getElem? (i := 33) (by decide +kernel))) rfl
theorem ml_11_155 : Cond.methodLink RX11 155 yX4_pass ∈ WT := wt_of (tb_3 (List.mem_of_getElem? (i := 37) (by decide +kernel))) rfl
theorem ml_4_69 : Cond.methodLink RX4 69 yX4_giveOff ∈ WT := wt_of (tb_3 (List.mem_of_getElem? (i := 41) (by decide +kernel))) rfl
theorem ml_4_105 : Cond.methodLink RX4 105 yX5_givenShare ∈ WT := wt_of (tb_3 (List.mem_of_getElem? (i := 45) (by decide +kernel))) rfl
theorem cw_4_109 : Cond.constantLong RX4 109 (1000 : Int64) ∈ WT := wt_of (tb_3 (List.mem_of_getElem? (i := 49) (by decide +kernel))) rfl
theorem ml_4_73 : Cond.methodLink RX4 73 yX4_leakIn ∈ WT := wt_of (tb_3 (List.mem_of_getElem? (i := 50) (by decide +kernel))) rfl
theorem ml_4_34 : Cond.methodLink RX4 34 arraycopyName ∈ WT := wt_of (tb_3 (List.mem_of_getElem? (i := 54) (by decide +kernel))) rfl
theorem ml_4_91 : Cond.methodLink RX4 91 yX4_flow ∈ WT := wt_of (tb_3 (List.mem_of_getElem? (i := 57) (by decide +kernel))) rfl
theorem cw_4_42 : Cond.constantLong RX4 42 (100 : Int64) ∈ WT := wt_of (tb_3 (List.mem_of_getElem? (i := 61) (by decide +kernel))) rfl
theorem ml_4_44 : Cond.methodLink RX4 44 yX5_divisor ∈ WT := wt_of (tb_3 (List.mem_of_getElem? (i := 62) (by decide +kernel))) rfl
theorem ml_4_50 : Cond.methodLink RX4 50 yJ9_min_f86c9 ∈ WT := wt_of (tb_3 (List.mem_of_getElem? (i := 66) (by decide +kernel))) rfl
theorem ml_4_98 : Cond.methodLink RX4 98 yX4_draw ∈ WT := wt_of (tb_3 (List.mem_of_getElem? (i := 69) (by decide +kernel))) rfl
theorem ml_4_120 : Cond.methodLink RX4 120 yX4_held ∈ WT := wt_of (tb_3 (List.mem_of_getElem? (i := 73) (by decide +kernel))) rfl
theorem ml_4_102 : Cond.methodLink RX4 102 yX4_giveBack ∈ WT := wt_of (tb_3 (List.mem_of_getElem? (i := 77) (by decide +kernel))) rfl
theorem ml_L_50 : Cond.methodLink "NearNothingLaw" 50 yX11_in ∈ WT := wt_of (tb_3 (List.mem_of_getElem? (i := 81) (by decide +kernel))) rfl
theorem ml_11_158 : Cond.methodLink RX11 158 yX4_push ∈ WT := wt_of (tb_3 (List.mem_of_getElem? (i := 85) (by decide +kernel))) rfl
theorem cw_4_40 : Cond.constantLong RX4 40 (2000000000 : Int64) ∈ WT := wt_of (tb_3 (List.mem_of_getElem? (i := 89) (by decide +kernel))) rfl
theorem ml_L_54 : Cond.methodLink "NearNothingLaw" 54 yX11_pumpOf ∈ WT := wt_of (tb_3 (List.mem_of_getElem? (i := 90) (by decide +kernel))) rfl
theorem ml_L_58 : Cond.methodLink "NearNothingLaw" 58 yX11_all ∈ WT := wt_of (tb_3 (List.mem_of_getElem? (i := 94) (by decide +kernel))) rfl
theorem ml_11_174 : Cond.methodLink RX11 174 yX4_total ∈ WT := wt_of (tb_3 (List.mem_of_getElem? (i := 98) (by decide +kernel))) rfl
theorem ml_4_59 : Cond.methodLink RX4 59 yX4_amount ∈ WT := wt_of (tb_3 (List.mem_of_getElem? (i := 102) (by decide +kernel))) rfl
theorem ml_L_62 : Cond.methodLink "NearNothingLaw" 62 yX11_when ∈ WT := wt_of (tb_3 (List.mem_of_getElem? (i := 103) (by decide +kernel))) rfl
theorem cw_11_178 : Cond.constant RX11 178 (999999 : Int32) ∈ WT := wt_of (tb_3 (List.mem_of_getElem? (i := 107) (by decide +kernel))) rfl
theorem ml_11_179 : Cond.methodLink RX11 179 yX4_become ∈ WT := wt_of (tb_3 (List.mem_of_getElem? (i := 108) (by decide +kernel))) rfl
theorem ml_L_68 : Cond.methodLink "NearNothingLaw" 68 yX11_feed ∈ WT := wt_of (tb_3 (List.mem_of_getElem? (i := 112) (by decide +kernel))) rfl
theorem ml_11_186 : Cond.methodLink RX11 186 yX6_take ∈ WT := wt_of (tb_3 (List.mem_of_getElem? (i := 116) (by decide +kernel))) rfl
theorem cw_6_22 : Cond.constantLong RX6 22 (255 : Int64) ∈ WT := wt_of (tb_3 (List.mem_of_getElem? (i := 120) (by decide +kernel))) rfl
theorem ml_L_73 : Cond.methodLink "NearNothingLaw" 73 yX11_rule ∈ WT := wt_of (tb_3 (List.mem_of_getElem? (i := 121) (by decide +kernel))) rfl
theorem ml_11_197 : Cond.methodLink RX11 197 yX6_parses ∈ WT := wt_of (tb_3 (List.mem_of_getElem? (i := 125) (by decide +kernel))) rfl
theorem ml_6_30 : Cond.methodLink RX6 30 yX6_go ∈ WT := wt_of (tb_3 (List.mem_of_getElem? (i := 129) (by decide +kernel))) rfl
theorem ml_6_40 : Cond.methodLink RX6 40 yX6_skip ∈ WT := wt_of (tb_3 (List.mem_of_getElem? (i := 133) (by decide +kernel))) rfl
theorem ml_6_44 : Cond.methodLink RX6 44 yX6_digit ∈ WT := wt_of (tb_3 (List.mem_of_getElem? (i := 137) (by decide +kernel))) rfl
theorem ml_6_51 : Cond.methodLink RX6 51 yX6_test ∈ WT := wt_of (tb_3 (List.mem_of_getElem? (i := 141) (by decide +kernel))) rfl
theorem ml_6_54 : Cond.methodLink RX6 54 yX6_term ∈ WT := wt_of (tb_3 (List.mem_of_getElem? (i := 145) (by decide +kernel))) rfl
theorem ml_6_61 : Cond.methodLink RX6 61 yX6_part ∈ WT := wt_of (tb_3 (List.mem_of_getElem? (i := 149) (by decide +kernel))) rfl
theorem ml_6_64 : Cond.methodLink RX6 64 yX6_comparison ∈ WT := wt_of (tb_3 (List.mem_of_getElem? (i := 153) (by decide +kernel))) rfl
theorem ml_6_68 : Cond.methodLink RX6 68 yX6_among ∈ WT := wt_of (tb_3 (List.mem_of_getElem? (i := 157) (by decide +kernel))) rfl
theorem ml_6_74 : Cond.methodLink RX6 74 yX6_number ∈ WT := wt_of (tb_3 (List.mem_of_getElem? (i := 161) (by decide +kernel))) rfl
theorem ml_6_57 : Cond.methodLink RX6 57 yX6_add ∈ WT := wt_of (tb_3 (List.mem_of_getElem? (i := 165) (by decide +kernel))) rfl
theorem ml_11_204 : Cond.methodLink RX11 204 yX8_add ∈ WT := wt_of (tb_3 (List.mem_of_getElem? (i := 169) (by decide +kernel))) rfl
theorem ml_8_43 : Cond.methodLink RX8 43 arraycopyName ∈ WT := wt_of (tb_3 (List.mem_of_getElem? (i := 173) (by decide +kernel))) rfl
theorem ml_L_78 : Cond.methodLink "NearNothingLaw" 78 yX11_unrule ∈ WT := wt_of (tb_3 (List.mem_of_getElem? (i := 174) (by decide +kernel))) rfl
theorem ml_11_208 : Cond.methodLink RX11 208 yX8_stands ∈ WT := wt_of (tb_3 (List.mem_of_getElem? (i := 178) (by decide +kernel))) rfl
theorem ml_11_212 : Cond.methodLink RX11 212 yX8_drop ∈ WT := wt_of (tb_3 (List.mem_of_getElem? (i := 182) (by decide +kernel))) rfl
theorem ml_L_82 : Cond.methodLink "NearNothingLaw" 82 yX11_forbids ∈ WT := wt_of (tb_3 (List.mem_of_getElem? (i := 186) (by decide +kernel))) rfl
theorem ml_11_216 : Cond.methodLink RX11 216 yX8_forbidder ∈ WT := wt_of (tb_3 (List.mem_of_getElem? (i := 190) (by decide +kernel))) rfl
theorem ml_8_59 : Cond.methodLink RX8 59 yX8_holds ∈ WT := wt_of (tb_3 (List.mem_of_getElem? (i := 194) (by decide +kernel))) rfl
theorem cw_8_63 : Cond.constantLong RX8 63 (-2 : Int64) ∈ WT := wt_of (tb_3 (List.mem_of_getElem? (i := 198) (by decide +kernel))) rfl
theorem ml_8_65 : Cond.methodLink RX8 65 yX8_compares ∈ WT := wt_of (tb_3 (List.mem_of_getElem? (i := 199) (by decide +kernel))) rfl
theorem ml_8_73 : Cond.methodLink RX8 73 yX4_push ∈ WT := wt_of (tb_3 (List.mem_of_getElem? (i := 203) (by decide +kernel))) rfl
theorem ml_L_87 : Cond.methodLink "NearNothingLaw" 87 yX11_valve ∈ WT := wt_of (tb_3 (List.mem_of_getElem? (i := 204) (by decide +kernel))) rfl
theorem ml_11_223 : Cond.methodLink RX11 223 yX0_perform ∈ WT := wt_of (tb_3 (List.mem_of_getElem? (i := 208) (by decide +kernel))) rfl
theorem ml_0_26 : Cond.methodLink RX0 26 yX0_dropFirst ∈ WT := wt_of (tb_3 (List.mem_of_getElem? (i := 212) (by decide +kernel))) rfl
theorem ml_0_46 : Cond.methodLink RX0 46 arraycopyName ∈ WT := wt_of (tb_3 (List.mem_of_getElem? (i := 216) (by decide +kernel))) rfl
theorem ml_0_34 : Cond.methodLink RX0 34 yX0_repeat ∈ WT := wt_of (tb_3 (List.mem_of_getElem? (i := 217) (by decide +kernel))) rfl
theorem ml_L_91 : Cond.methodLink "NearNothingLaw" 91 yX11_start ∈ WT := wt_of (tb_3 (List.mem_of_getElem? (i := 221) (by decide +kernel))) rfl
theorem ml_L_95 : Cond.methodLink "NearNothingLaw" 95 yX11_warmUp ∈ WT := wt_of (tb_3 (List.mem_of_getElem? (i := 225) (by decide +kernel))) rfl
theorem ml_L_99 : Cond.methodLink "NearNothingLaw" 99 yX11_undo ∈ WT := wt_of (tb_3 (List.mem_of_getElem? (i := 229) (by decide +kernel))) rfl
theorem ml_11_227 : Cond.methodLink RX11 227 yX0_takeBack ∈ WT := wt_of (tb_3 (List.mem_of_getElem? (i := 233) (by decide +kernel))) rfl
theorem ml_L_103 : Cond.methodLink "NearNothingLaw" 103 yX11_redo ∈ WT := wt_of (tb_3 (List.mem_of_getElem? (i := 237) (by decide +kernel))) rfl
theorem ml_11_231 : Cond.methodLink RX11 231 yX0_repeat ∈ WT := wt_of (tb_4 (List.mem_of_getElem? (i := 1) (by decide +kernel))) rfl
theorem ml_L_107 : Cond.methodLink "NearNothingLaw" 107 yX11_order ∈ WT := wt_of (tb_4 (List.mem_of_getElem? (i := 2) (by decide +kernel))) rfl
theorem ml_11_234 : Cond.methodLink RX11 234 yJ6_bitCount_0f7a4 ∈ WT := wt_of (tb_4 (List.mem_of_getElem? (i := 6) (by decide +kernel))) rfl
theorem cw_J_265 : Cond.constant RJ6 265 (1431655765 : Int32) ∈ WT := wt_of (tb_4 (List.mem_of_getElem? (i := 9) (by decide +kernel))) rfl
theorem cw_J_266 : Cond.constant RJ6 266 (858993459 : Int32) ∈ WT := wt_of (tb_4 (List.mem_of_getElem? (i := 10) (by decide +kernel))) rfl
theorem cw_J_267 : Cond.constant RJ6 267 (252645135 : Int32) ∈ WT := wt_of (tb_4 (List.mem_of_getElem? (i := 11) (by decide +kernel))) rfl
theorem ml_11_239 : Cond.methodLink RX11 239 yX10_nth ∈ WT := wt_of (tb_4 (List.mem_of_getElem? (i := 12) (by decide +kernel))) rfl
theorem ml_10_19 : Cond.methodLink RX10 19 yX10_next ∈ WT := wt_of (tb_4 (List.mem_of_getElem? (i := 16) (by decide +kernel))) rfl
theorem ml_10_23 : Cond.methodLinkNest RX10 23 yX11_within "NearNothing" ∈ lw_tbl := tb_4 (List.mem_of_getElem? (i := 20) (by decide +kernel))
theorem ml_10_27 : Cond.methodLink RX10 27 yX8_forbidder ∈ WT := wt_of (tb_4 (List.mem_of_getElem? (i := 21) (by decide +kernel))) rfl
theorem ml_L_111 : Cond.methodLink "NearNothingLaw" 111 yX11_rest ∈ WT := wt_of (tb_4 (List.mem_of_getElem? (i := 22) (by decide +kernel))) rfl
theorem ml_11_243 : Cond.methodLink RX11 243 yX7_fraction ∈ WT := wt_of (tb_4 (List.mem_of_getElem? (i := 26) (by decide +kernel))) rfl
theorem ml_7_45 : Cond.methodLink RX7 45 yX7_findReached ∈ WT := wt_of (tb_4 (List.mem_of_getElem? (i := 30) (by decide +kernel))) rfl
theorem ml_7_102 : Cond.methodLink RX7 102 yX7_join ∈ WT := wt_of (tb_4 (List.mem_of_getElem? (i := 34) (by decide +kernel))) rfl
theorem ml_7_48 : Cond.methodLink RX7 48 yX7_findSpeeds ∈ WT := wt_of (tb_4 (List.mem_of_getElem? (i := 38) (by decide +kernel))) rfl
theorem ml_7_105 : Cond.methodLink RX7 105 yJ7_fill_53178 ∈ WT := wt_of (tb_4 (List.mem_of_getElem? (i := 42) (by decide +kernel))) rfl
theorem ml_7_52 : Cond.methodLink RX7 52 yX7_isClosed ∈ WT := wt_of (tb_4 (List.mem_of_getElem? (i := 43) (by decide +kernel))) rfl
theorem cw_7_56 : Cond.constantLong RX7 56 (-9 : Int64) ∈ WT := wt_of (tb_4 (List.mem_of_getElem? (i := 47) (by decide +kernel))) rfl
theorem ml_7_58 : Cond.methodLink RX7 58 yX7_fill ∈ WT := wt_of (tb_4 (List.mem_of_getElem? (i := 48) (by decide +kernel))) rfl
theorem ml_7_120 : Cond.methodLink RX7 120 yJ7_fill_d0a16 ∈ WT := wt_of (tb_4 (List.mem_of_getElem? (i := 52) (by decide +kernel))) rfl
theorem ml_7_62 : Cond.methodLink RX7 62 yX7_determinant ∈ WT := wt_of (tb_4 (List.mem_of_getElem? (i := 55) (by decide +kernel))) rfl
theorem ml_7_126 : Cond.methodLink RX7 126 yJ6_bitCount_0f7a4 ∈ WT := wt_of (tb_4 (List.mem_of_getElem? (i := 59) (by decide +kernel))) rfl
theorem ml_7_66 : Cond.methodLink RX7 66 yX7_common ∈ WT := wt_of (tb_4 (List.mem_of_getElem? (i := 60) (by decide +kernel))) rfl
theorem ml_7_131 : Cond.methodLink RX7 131 yJ9_abs_067f4 ∈ WT := wt_of (tb_4 (List.mem_of_getElem? (i := 63) (by decide +kernel))) rfl
theorem ml_L_116 : Cond.methodLink "NearNothingLaw" 116 yX11_square ∈ WT := wt_of (tb_4 (List.mem_of_getElem? (i := 66) (by decide +kernel))) rfl
theorem ml_11_247 : Cond.methodLink RX11 247 yX2_draw ∈ WT := wt_of (tb_4 (List.mem_of_getElem? (i := 70) (by decide +kernel))) rfl
theorem ml_L_121 : Cond.methodLink "NearNothingLaw" 121 yX11_walks ∈ WT := wt_of (tb_4 (List.mem_of_getElem? (i := 74) (by decide +kernel))) rfl
theorem ml_11_251 : Cond.methodLink RX11 251 yX2_ways ∈ WT := wt_of (tb_4 (List.mem_of_getElem? (i := 78) (by decide +kernel))) rfl
theorem ml_2_20 : Cond.methodLink RX2 20 yJ7_fill_53178 ∈ WT := wt_of (tb_4 (List.mem_of_getElem? (i := 82) (by decide +kernel))) rfl
theorem ml_2_33 : Cond.methodLink RX2 33 yX2_step ∈ WT := wt_of (tb_4 (List.mem_of_getElem? (i := 83) (by decide +kernel))) rfl
theorem ml_2_36 : Cond.methodLink RX2 36 yX2_go ∈ WT := wt_of (tb_4 (List.mem_of_getElem? (i := 87) (by decide +kernel))) rfl
theorem ml_2_40 : Cond.methodLink RX2 40 arraycopyName ∈ WT := wt_of (tb_4 (List.mem_of_getElem? (i := 91) (by decide +kernel))) rfl
theorem ml_L_125 : Cond.methodLink "NearNothingLaw" 125 yX11_sees ∈ WT := wt_of (tb_4 (List.mem_of_getElem? (i := 92) (by decide +kernel))) rfl
theorem ml_L_129 : Cond.methodLink "NearNothingLaw" 129 yX11_reads ∈ WT := wt_of (tb_4 (List.mem_of_getElem? (i := 96) (by decide +kernel))) rfl
theorem ml_11_257 : Cond.methodLink RX11 257 yX3_shown ∈ WT := wt_of (tb_4 (List.mem_of_getElem? (i := 100) (by decide +kernel))) rfl
theorem ml_3_30 : Cond.methodLink RX3 30 yX4_amount ∈ WT := wt_of (tb_4 (List.mem_of_getElem? (i := 104) (by decide +kernel))) rfl
theorem cw_3_36 : Cond.constantLong RX3 36 (2000000000 : Int64) ∈ WT := wt_of (tb_4 (List.mem_of_getElem? (i := 105) (by decide +kernel))) rfl
theorem cw_3_38 : Cond.constantLong RX3 38 (10 : Int64) ∈ WT := wt_of (tb_4 (List.mem_of_getElem? (i := 106) (by decide +kernel))) rfl
theorem ml_3_40 : Cond.methodLink RX3 40 yJ9_min_f86c9 ∈ WT := wt_of (tb_4 (List.mem_of_getElem? (i := 107) (by decide +kernel))) rfl
theorem ml_L_133 : Cond.methodLink "NearNothingLaw" 133 yX11_reading ∈ WT := wt_of (tb_4 (List.mem_of_getElem? (i := 108) (by decide +kernel))) rfl
theorem ml_L_137 : Cond.methodLink "NearNothingLaw" 137 yX11_trueGas ∈ WT := wt_of (tb_4 (List.mem_of_getElem? (i := 112) (by decide +kernel))) rfl
theorem ml_11_264 : Cond.methodLink RX11 264 yX3_hidden ∈ WT := wt_of (tb_4 (List.mem_of_getElem? (i := 116) (by decide +kernel))) rfl
theorem ml_11_268 : Cond.methodLink RX11 268 yX3_possible ∈ WT := wt_of (tb_4 (List.mem_of_getElem? (i := 120) (by decide +kernel))) rfl
theorem ml_3_46 : Cond.methodLink RX3 46 yX3_bound ∈ WT := wt_of (tb_4 (List.mem_of_getElem? (i := 124) (by decide +kernel))) rfl
theorem ml_3_66 : Cond.methodLink RX3 66 yX3_narrow ∈ WT := wt_of (tb_4 (List.mem_of_getElem? (i := 128) (by decide +kernel))) rfl
theorem ml_3_69 : Cond.methodLink RX3 69 yJ9_floorDiv_7cf53 ∈ WT := wt_of (tb_4 (List.mem_of_getElem? (i := 132) (by decide +kernel))) rfl
theorem ml_3_63 : Cond.methodLink RX3 63 yJ9_max_7cf53 ∈ WT := wt_of (tb_4 (List.mem_of_getElem? (i := 135) (by decide +kernel))) rfl
theorem ml_3_60 : Cond.methodLink RX3 60 yJ9_min_7cf53 ∈ WT := wt_of (tb_4 (List.mem_of_getElem? (i := 138) (by decide +kernel))) rfl
theorem ml_3_57 : Cond.methodLink RX3 57 yX3_note ∈ WT := wt_of (tb_4 (List.mem_of_getElem? (i := 141) (by decide +kernel))) rfl
theorem ml_L_141 : Cond.methodLink "NearNothingLaw" 141 yX11_stage ∈ WT := wt_of (tb_4 (List.mem_of_getElem? (i := 145) (by decide +kernel))) rfl
theorem ml_11_271 : Cond.methodLink RX11 271 yX1_tell ∈ WT := wt_of (tb_4 (List.mem_of_getElem? (i := 149) (by decide +kernel))) rfl
theorem ml_L_145 : Cond.methodLink "NearNothingLaw" 145 yX11_restCold ∈ WT := wt_of (tb_4 (List.mem_of_getElem? (i := 153) (by decide +kernel))) rfl
theorem ml_11_274 : Cond.methodLink RX11 274 yX1_degree ∈ WT := wt_of (tb_4 (List.mem_of_getElem? (i := 157) (by decide +kernel))) rfl
theorem ml_1_30 : Cond.methodLink RX1 30 yX1_degreeUnder ∈ WT := wt_of (tb_4 (List.mem_of_getElem? (i := 161) (by decide +kernel))) rfl
theorem ml_1_38 : Cond.methodLink RX1 38 yX1_spare ∈ WT := wt_of (tb_4 (List.mem_of_getElem? (i := 165) (by decide +kernel))) rfl
theorem ml_1_47 : Cond.methodLink RX1 47 yJ9_max_7cf53 ∈ WT := wt_of (tb_4 (List.mem_of_getElem? (i := 169) (by decide +kernel))) rfl
theorem ml_L_149 : Cond.methodLink "NearNothingLaw" 149 yX11_load ∈ WT := wt_of (tb_4 (List.mem_of_getElem? (i := 170) (by decide +kernel))) rfl
theorem ml_11_277 : Cond.methodLink RX11 277 yX1_bearable ∈ WT := wt_of (tb_4 (List.mem_of_getElem? (i := 174) (by decide +kernel))) rfl
theorem ml_1_34 : Cond.methodLink RX1 34 yX1_degree ∈ WT := wt_of (tb_4 (List.mem_of_getElem? (i := 178) (by decide +kernel))) rfl
theorem ml_1_42 : Cond.methodLink RX1 42 yJ9_min_7cf53 ∈ WT := wt_of (tb_4 (List.mem_of_getElem? (i := 179) (by decide +kernel))) rfl
theorem ml_L_153 : Cond.methodLink "NearNothingLaw" 153 yX11_late ∈ WT := wt_of (tb_4 (List.mem_of_getElem? (i := 180) (by decide +kernel))) rfl
theorem ml_L_157 : Cond.methodLink "NearNothingLaw" 157 yX11_spray ∈ WT := wt_of (tb_4 (List.mem_of_getElem? (i := 184) (by decide +kernel))) rfl
theorem ml_11_286 : Cond.methodLink RX11 286 yX9_addSpray ∈ WT := wt_of (tb_4 (List.mem_of_getElem? (i := 188) (by decide +kernel))) rfl
theorem ml_L_161 : Cond.methodLink "NearNothingLaw" 161 yX11_seen ∈ WT := wt_of (tb_4 (List.mem_of_getElem? (i := 192) (by decide +kernel))) rfl
theorem ml_11_292 : Cond.methodLink RX11 292 yX9_addSight ∈ WT := wt_of (tb_4 (List.mem_of_getElem? (i := 196) (by decide +kernel))) rfl
theorem ml_L_165 : Cond.methodLink "NearNothingLaw" 165 yX11_anew ∈ WT := wt_of (tb_4 (List.mem_of_getElem? (i := 200) (by decide +kernel))) rfl
theorem ml_L_169 : Cond.methodLink "NearNothingLaw" 169 yX11_hunt ∈ WT := wt_of (tb_4 (List.mem_of_getElem? (i := 204) (by decide +kernel))) rfl
theorem ml_11_296 : Cond.methodLink RX11 296 yX9_found ∈ WT := wt_of (tb_4 (List.mem_of_getElem? (i := 208) (by decide +kernel))) rfl
theorem ml_9_47 : Cond.methodLink RX9 47 yX9_countFitting ∈ WT := wt_of (tb_4 (List.mem_of_getElem? (i := 212) (by decide +kernel))) rfl
theorem ml_9_55 : Cond.methodLink RX9 55 yX9_findShown ∈ WT := wt_of (tb_4 (List.mem_of_getElem? (i := 216) (by decide +kernel))) rfl
theorem ml_9_58 : Cond.methodLink RX9 58 yJ6_bitCount_0f7a4 ∈ WT := wt_of (tb_4 (List.mem_of_getElem? (i := 220) (by decide +kernel))) rfl
theorem ml_9_63 : Cond.methodLink RX9 63 yX9_fits ∈ WT := wt_of (tb_4 (List.mem_of_getElem? (i := 221) (by decide +kernel))) rfl
theorem ml_9_51 : Cond.methodLink RX9 51 yX9_nextPlace ∈ WT := wt_of (tb_4 (List.mem_of_getElem? (i := 225) (by decide +kernel))) rfl
theorem ml_9_67 : Cond.methodLink RX9 67 yJ9_max_7cf53 ∈ WT := wt_of (tb_4 (List.mem_of_getElem? (i := 229) (by decide +kernel))) rfl
theorem ml_L_173 : Cond.methodLink "NearNothingLaw" 173 yX11_odds ∈ WT := wt_of (tb_4 (List.mem_of_getElem? (i := 230) (by decide +kernel))) rfl
theorem ml_11_299 : Cond.methodLink RX11 299 yX11_choices ∈ WT := wt_of (tb_4 (List.mem_of_getElem? (i := 234) (by decide +kernel))) rfl
theorem ml_11_303 : Cond.methodLink RX11 303 yX11_passing ∈ WT := wt_of (tb_4 (List.mem_of_getElem? (i := 237) (by decide +kernel))) rfl
theorem ml_L_178 : Cond.methodLink "NearNothingLaw" 178 yX11_offer ∈ WT := wt_of (tb_5 (List.mem_of_getElem? (i := 0) (by decide +kernel))) rfl
theorem ml_11_310 : Cond.methodLink RX11 310 yX7_addOffer ∈ WT := wt_of (tb_5 (List.mem_of_getElem? (i := 4) (by decide +kernel))) rfl
theorem ml_L_182 : Cond.methodLink "NearNothingLaw" 182 yX11_plan ∈ WT := wt_of (tb_5 (List.mem_of_getElem? (i := 8) (by decide +kernel))) rfl
theorem ml_11_313 : Cond.methodLink RX11 313 yX7_cheapest ∈ WT := wt_of (tb_5 (List.mem_of_getElem? (i := 12) (by decide +kernel))) rfl
theorem ml_7_70 : Cond.methodLink RX7 70 yX7_leakyRooms ∈ WT := wt_of (tb_5 (List.mem_of_getElem? (i := 16) (by decide +kernel))) rfl
theorem ml_7_74 : Cond.methodLink RX7 74 yX7_priceOf ∈ WT := wt_of (tb_5 (List.mem_of_getElem? (i := 20) (by decide +kernel))) rfl
theorem ml_7_78 : Cond.methodLink RX7 78 yX7_serves ∈ WT := wt_of (tb_5 (List.mem_of_getElem? (i := 24) (by decide +kernel))) rfl
theorem ml_L_186 : Cond.methodLink "NearNothingLaw" 186 yX11_count ∈ WT := wt_of (tb_5 (List.mem_of_getElem? (i := 28) (by decide +kernel))) rfl
theorem ml_L_12 : Cond.methodLink "NearNothingLaw" 12 yX12_init ∈ WT := wt_of (tb_5 (List.mem_of_getElem? (i := 34) (by decide +kernel))) rfl
theorem ml_12_1 : Cond.methodLink RX12 1 objectInit ∈ WT := wt_of (tb_5 (List.mem_of_getElem? (i := 37) (by decide +kernel))) rfl
theorem fl_12_7 : Cond.fieldLink RX12 7 (TX12 0).1 (TX12 0).2.1 (TX12 0).2.2.1 ∈ WT := wt_of (tb_5 (List.mem_of_getElem? (i := 38) (by decide +kernel))) rfl
theorem fl_12_13 : Cond.fieldLink RX12 13 (TX12 1).1 (TX12 1).2.1 (TX12 1).2.2.1 ∈ WT := wt_of (tb_5 (List.mem_of_getElem? (i := 39) (by decide +kernel))) rfl
theorem fl_12_16 : Cond.fieldLink RX12 16 (TX12 2).1 (TX12 2).2.1 (TX12 2).2.2.1 ∈ WT := wt_of (tb_5 (List.mem_of_getElem? (i := 40) (by decide +kernel))) rfl
theorem fl_12_19 : Cond.fieldLink RX12 19 (TX12 3).1 (TX12 3).2.1 (TX12 3).2.2.1 ∈ WT := wt_of (tb_5 (List.mem_of_getElem? (i := 41) (by decide +kernel))) rfl
theorem fl_12_22 : Cond.fieldLink RX12 22 (TX12 4).1 (TX12 4).2.1 (TX12 4).2.2.1 ∈ WT := wt_of (tb_5 (List.mem_of_getElem? (i := 42) (by decide +kernel))) rfl
theorem fl_12_25 : Cond.fieldLink RX12 25 (TX12 5).1 (TX12 5).2.1 (TX12 5).2.2.1 ∈ WT := wt_of (tb_5 (List.mem_of_getElem? (i := 43) (by decide +kernel))) rfl
theorem fl_12_28 : Cond.fieldLink RX12 28 (TX12 6).1 (TX12 6).2.1 (TX12 6).2.2.1 ∈ WT := wt_of (tb_5 (List.mem_of_getElem? (i := 44) (by decide +kernel))) rfl
theorem fl_12_31 : Cond.fieldLink RX12 31 (TX12 7).1 (TX12 7).2.1 (TX12 7).2.2.1 ∈ WT := wt_of (tb_5 (List.mem_of_getElem? (i := 45) (by decide +kernel))) rfl
theorem fl_12_34 : Cond.fieldLink RX12 34 (TX12 8).1 (TX12 8).2.1 (TX12 8).2.2.1 ∈ WT := wt_of (tb_5 (List.mem_of_getElem? (i := 46) (by decide +kernel))) rfl
theorem fl_12_37 : Cond.fieldLink RX12 37 (TX12 9).1 (TX12 9).2.1 (TX12 9).2.2.1 ∈ WT := wt_of (tb_5 (List.mem_of_getElem? (i := 47) (by decide +kernel))) rfl
theorem fl_12_40 : Cond.fieldLink RX12 40 (TX12 10).1 (TX12 10).2.1 (TX12 10).2.2.1 ∈ WT := wt_of (tb_5 (List.mem_of_getElem? (i := 48) (by decide +kernel))) rfl
theorem fl_12_43 : Cond.fieldLink RX12 43 (TX12 11).1 (TX12 11).2.1 (TX12 11).2.2.1 ∈ WT := wt_of (tb_5 (List.mem_of_getElem? (i := 49) (by decide +kernel))) rfl
theorem fl_12_46 : Cond.fieldLink RX12 46 (TX12 12).1 (TX12 12).2.1 (TX12 12).2.2.1 ∈ WT := wt_of (tb_5 (List.mem_of_getElem? (i := 50) (by decide +kernel))) rfl
theorem fl_12_49 : Cond.fieldLink RX12 49 (TX12 13).1 (TX12 13).2.1 (TX12 13).2.2.1 ∈ WT := wt_of (tb_5 (List.mem_of_getElem? (i := 51) (by decide +kernel))) rfl
theorem fl_12_52 : Cond.fieldLink RX12 52 (TX12 14).1 (TX12 14).2.1 (TX12 14).2.2.1 ∈ WT := wt_of (tb_5 (List.mem_of_getElem? (i := 52) (by decide +kernel))) rfl
theorem fl_12_55 : Cond.fieldLink RX12 55 (TX12 15).1 (TX12 15).2.1 (TX12 15).2.2.1 ∈ WT := wt_of (tb_5 (List.mem_of_getElem? (i := 53) (by decide +kernel))) rfl
theorem fl_12_58 : Cond.fieldLink RX12 58 (TX12 16).1 (TX12 16).2.1 (TX12 16).2.2.1 ∈ WT := wt_of (tb_5 (List.mem_of_getElem? (i := 54) (by decide +kernel))) rfl
theorem fl_12_61 : Cond.fieldLink RX12 61 (TX12 17).1 (TX12 17).2.1 (TX12 17).2.2.1 ∈ WT := wt_of (tb_5 (List.mem_of_getElem? (i := 55) (by decide +kernel))) rfl
theorem fl_12_65 : Cond.fieldLink RX12 65 (TX12 18).1 (TX12 18).2.1 (TX12 18).2.2.1 ∈ WT := wt_of (tb_5 (List.mem_of_getElem? (i := 56) (by decide +kernel))) rfl
theorem fl_12_68 : Cond.fieldLink RX12 68 (TX12 19).1 (TX12 19).2.1 (TX12 19).2.2.1 ∈ WT := wt_of (tb_5 (List.mem_of_getElem? (i := 57) (by decide +kernel))) rfl
theorem fl_12_210 : Cond.fieldLink RX12 210 (TX12 20).1 (TX12 20).2.1 (TX12 20).2.2.1 ∈ WT := wt_of (tb_5 (List.mem_of_getElem? (i := 58) (by decide +kernel))) rfl
theorem fl_12_214 : Cond.fieldLink RX12 214 (TX12 21).1 (TX12 21).2.1 (TX12 21).2.2.1 ∈ WT := wt_of (tb_5 (List.mem_of_getElem? (i := 59) (by decide +kernel))) rfl
theorem fl_12_217 : Cond.fieldLink RX12 217 (TX12 22).1 (TX12 22).2.1 (TX12 22).2.2.1 ∈ WT := wt_of (tb_5 (List.mem_of_getElem? (i := 60) (by decide +kernel))) rfl
theorem fl_12_280 : Cond.fieldLink RX12 280 (TX12 23).1 (TX12 23).2.1 (TX12 23).2.2.1 ∈ WT := wt_of (tb_5 (List.mem_of_getElem? (i := 61) (by decide +kernel))) rfl
theorem fl_12_71 : Cond.fieldLink RX12 71 (TX12 24).1 (TX12 24).2.1 (TX12 24).2.2.1 ∈ WT := wt_of (tb_5 (List.mem_of_getElem? (i := 62) (by decide +kernel))) rfl
theorem fl_12_74 : Cond.fieldLink RX12 74 (TX12 25).1 (TX12 25).2.1 (TX12 25).2.2.1 ∈ WT := wt_of (tb_5 (List.mem_of_getElem? (i := 63) (by decide +kernel))) rfl
theorem fl_12_77 : Cond.fieldLink RX12 77 (TX12 26).1 (TX12 26).2.1 (TX12 26).2.2.1 ∈ WT := wt_of (tb_5 (List.mem_of_getElem? (i := 64) (by decide +kernel))) rfl
theorem fl_12_80 : Cond.fieldLink RX12 80 (TX12 27).1 (TX12 27).2.1 (TX12 27).2.2.1 ∈ WT := wt_of (tb_5 (List.mem_of_getElem? (i := 65) (by decide +kernel))) rfl
theorem fl_12_83 : Cond.fieldLink RX12 83 (TX12 28).1 (TX12 28).2.1 (TX12 28).2.2.1 ∈ WT := wt_of (tb_5 (List.mem_of_getElem? (i := 66) (by decide +kernel))) rfl
theorem fl_12_86 : Cond.fieldLink RX12 86 (TX12 29).1 (TX12 29).2.1 (TX12 29).2.2.1 ∈ WT := wt_of (tb_5 (List.mem_of_getElem? (i := 67) (by decide +kernel))) rfl
theorem fl_12_89 : Cond.fieldLink RX12 89 (TX12 30).1 (TX12 30).2.1 (TX12 30).2.2.1 ∈ WT := wt_of (tb_5 (List.mem_of_getElem? (i := 68) (by decide +kernel))) rfl
theorem fl_12_92 : Cond.fieldLink RX12 92 (TX12 31).1 (TX12 31).2.1 (TX12 31).2.2.1 ∈ WT := wt_of (tb_5 (List.mem_of_getElem? (i := 69) (by decide +kernel))) rfl
theorem fl_12_95 : Cond.fieldLink RX12 95 (TX12 32).1 (TX12 32).2.1 (TX12 32).2.2.1 ∈ WT := wt_of (tb_5 (List.mem_of_getElem? (i := 70) (by decide +kernel))) rfl
theorem fl_12_98 : Cond.fieldLink RX12 98 (TX12 33).1 (TX12 33).2.1 (TX12 33).2.2.1 ∈ WT := wt_of (tb_5 (List.mem_of_getElem? (i := 71) (by decide +kernel))) rfl
theorem fl_12_101 : Cond.fieldLink RX12 101 (TX12 34).1 (TX12 34).2.1 (TX12 34).2.2.1 ∈ WT := wt_of (tb_5 (List.mem_of_getElem? (i := 72) (by decide +kernel))) rfl
theorem fl_12_104 : Cond.fieldLink RX12 104 (TX12 35).1 (TX12 35).2.1 (TX12 35).2.2.1 ∈ WT := wt_of (tb_5 (List.mem_of_getElem? (i := 73) (by decide +kernel))) rfl
theorem fl_12_107 : Cond.fieldLink RX12 107 (TX12 36).1 (TX12 36).2.1 (TX12 36).2.2.1 ∈ WT := wt_of (tb_5 (List.mem_of_getElem? (i := 74) (by decide +kernel))) rfl
theorem fl_12_308 : Cond.fieldLink RX12 308 (TX12 37).1 (TX12 37).2.1 (TX12 37).2.2.1 ∈ WT := wt_of (tb_5 (List.mem_of_getElem? (i := 75) (by decide +kernel))) rfl
theorem fl_12_336 : Cond.fieldLink RX12 336 (TX12 38).1 (TX12 38).2.1 (TX12 38).2.2.1 ∈ WT := wt_of (tb_5 (List.mem_of_getElem? (i := 76) (by decide +kernel))) rfl
theorem fl_12_313 : Cond.fieldLink RX12 313 (TX12 39).1 (TX12 39).2.1 (TX12 39).2.2.1 ∈ WT := wt_of (tb_5 (List.mem_of_getElem? (i := 77) (by decide +kernel))) rfl
theorem fl_12_327 : Cond.fieldLink RX12 327 (TX12 40).1 (TX12 40).2.1 (TX12 40).2.2.1 ∈ WT := wt_of (tb_5 (List.mem_of_getElem? (i := 78) (by decide +kernel))) rfl
theorem fl_12_110 : Cond.fieldLink RX12 110 (TX12 41).1 (TX12 41).2.1 (TX12 41).2.2.1 ∈ WT := wt_of (tb_5 (List.mem_of_getElem? (i := 79) (by decide +kernel))) rfl
theorem fl_12_113 : Cond.fieldLink RX12 113 (TX12 42).1 (TX12 42).2.1 (TX12 42).2.2.1 ∈ WT := wt_of (tb_5 (List.mem_of_getElem? (i := 80) (by decide +kernel))) rfl
theorem fl_12_345 : Cond.fieldLink RX12 345 (TX12 43).1 (TX12 43).2.1 (TX12 43).2.2.1 ∈ WT := wt_of (tb_5 (List.mem_of_getElem? (i := 81) (by decide +kernel))) rfl
theorem fl_12_354 : Cond.fieldLink RX12 354 (TX12 44).1 (TX12 44).2.1 (TX12 44).2.2.1 ∈ WT := wt_of (tb_5 (List.mem_of_getElem? (i := 82) (by decide +kernel))) rfl
theorem fl_12_357 : Cond.fieldLink RX12 357 (TX12 45).1 (TX12 45).2.1 (TX12 45).2.2.1 ∈ WT := wt_of (tb_5 (List.mem_of_getElem? (i := 83) (by decide +kernel))) rfl
theorem fl_12_116 : Cond.fieldLink RX12 116 (TX12 46).1 (TX12 46).2.1 (TX12 46).2.2.1 ∈ WT := wt_of (tb_5 (List.mem_of_getElem? (i := 84) (by decide +kernel))) rfl
theorem fl_12_119 : Cond.fieldLink RX12 119 (TX12 47).1 (TX12 47).2.1 (TX12 47).2.2.1 ∈ WT := wt_of (tb_5 (List.mem_of_getElem? (i := 85) (by decide +kernel))) rfl
theorem fl_12_122 : Cond.fieldLink RX12 122 (TX12 48).1 (TX12 48).2.1 (TX12 48).2.2.1 ∈ WT := wt_of (tb_5 (List.mem_of_getElem? (i := 86) (by decide +kernel))) rfl
theorem fl_12_125 : Cond.fieldLink RX12 125 (TX12 49).1 (TX12 49).2.1 (TX12 49).2.2.1 ∈ WT := wt_of (tb_5 (List.mem_of_getElem? (i := 87) (by decide +kernel))) rfl
theorem fl_12_376 : Cond.fieldLink RX12 376 (TX12 50).1 (TX12 50).2.1 (TX12 50).2.2.1 ∈ WT := wt_of (tb_5 (List.mem_of_getElem? (i := 88) (by decide +kernel))) rfl
theorem fl_12_379 : Cond.fieldLink RX12 379 (TX12 51).1 (TX12 51).2.1 (TX12 51).2.2.1 ∈ WT := wt_of (tb_5 (List.mem_of_getElem? (i := 89) (by decide +kernel))) rfl
theorem fl_12_128 : Cond.fieldLink RX12 128 (TX12 52).1 (TX12 52).2.1 (TX12 52).2.2.1 ∈ WT := wt_of (tb_5 (List.mem_of_getElem? (i := 90) (by decide +kernel))) rfl
theorem fl_12_131 : Cond.fieldLink RX12 131 (TX12 53).1 (TX12 53).2.1 (TX12 53).2.2.1 ∈ WT := wt_of (tb_5 (List.mem_of_getElem? (i := 91) (by decide +kernel))) rfl
theorem fl_12_134 : Cond.fieldLink RX12 134 (TX12 54).1 (TX12 54).2.1 (TX12 54).2.2.1 ∈ WT := wt_of (tb_5 (List.mem_of_getElem? (i := 92) (by decide +kernel))) rfl
theorem fl_12_138 : Cond.fieldLink RX12 138 (TX12 55).1 (TX12 55).2.1 (TX12 55).2.2.1 ∈ WT := wt_of (tb_5 (List.mem_of_getElem? (i := 93) (by decide +kernel))) rfl
theorem fl_12_141 : Cond.fieldLink RX12 141 (TX12 56).1 (TX12 56).2.1 (TX12 56).2.2.1 ∈ WT := wt_of (tb_5 (List.mem_of_getElem? (i := 94) (by decide +kernel))) rfl
theorem fl_12_144 : Cond.fieldLink RX12 144 (TX12 57).1 (TX12 57).2.1 (TX12 57).2.2.1 ∈ WT := wt_of (tb_5 (List.mem_of_getElem? (i := 95) (by decide +kernel))) rfl
theorem fl_12_147 : Cond.fieldLink RX12 147 (TX12 58).1 (TX12 58).2.1 (TX12 58).2.2.1 ∈ WT := wt_of (tb_5 (List.mem_of_getElem? (i := 96) (by decide +kernel))) rfl
theorem fl_12_150 : Cond.fieldLink RX12 150 (TX12 59).1 (TX12 59).2.1 (TX12 59).2.2.1 ∈ WT := wt_of (tb_5 (List.mem_of_getElem? (i := 97) (by decide +kernel))) rfl
theorem fl_12_153 : Cond.fieldLink RX12 153 (TX12 60).1 (TX12 60).2.1 (TX12 60).2.2.1 ∈ WT := wt_of (tb_5 (List.mem_of_getElem? (i := 98) (by decide +kernel))) rfl
theorem fl_12_156 : Cond.fieldLink RX12 156 (TX12 61).1 (TX12 61).2.1 (TX12 61).2.2.1 ∈ WT := wt_of (tb_5 (List.mem_of_getElem? (i := 99) (by decide +kernel))) rfl
theorem fl_12_159 : Cond.fieldLink RX12 159 (TX12 62).1 (TX12 62).2.1 (TX12 62).2.2.1 ∈ WT := wt_of (tb_5 (List.mem_of_getElem? (i := 100) (by decide +kernel))) rfl
theorem fl_12_162 : Cond.fieldLink RX12 162 (TX12 63).1 (TX12 63).2.1 (TX12 63).2.2.1 ∈ WT := wt_of (tb_5 (List.mem_of_getElem? (i := 101) (by decide +kernel))) rfl
theorem fl_12_165 : Cond.fieldLink RX12 165 (TX12 64).1 (TX12 64).2.1 (TX12 64).2.2.1 ∈ WT := wt_of (tb_5 (List.mem_of_getElem? (i := 102) (by decide +kernel))) rfl
theorem fl_12_168 : Cond.fieldLink RX12 168 (TX12 65).1 (TX12 65).2.1 (TX12 65).2.2.1 ∈ WT := wt_of (tb_5 (List.mem_of_getElem? (i := 103) (by decide +kernel))) rfl
theorem fl_12_171 : Cond.fieldLink RX12 171 (TX12 66).1 (TX12 66).2.1 (TX12 66).2.2.1 ∈ WT := wt_of (tb_5 (List.mem_of_getElem? (i := 104) (by decide +kernel))) rfl
theorem fl_12_174 : Cond.fieldLink RX12 174 (TX12 67).1 (TX12 67).2.1 (TX12 67).2.2.1 ∈ WT := wt_of (tb_5 (List.mem_of_getElem? (i := 105) (by decide +kernel))) rfl
theorem fl_12_177 : Cond.fieldLink RX12 177 (TX12 68).1 (TX12 68).2.1 (TX12 68).2.2.1 ∈ WT := wt_of (tb_5 (List.mem_of_getElem? (i := 106) (by decide +kernel))) rfl
theorem fl_12_180 : Cond.fieldLink RX12 180 (TX12 69).1 (TX12 69).2.1 (TX12 69).2.2.1 ∈ WT := wt_of (tb_5 (List.mem_of_getElem? (i := 107) (by decide +kernel))) rfl
theorem fl_12_183 : Cond.fieldLink RX12 183 (TX12 70).1 (TX12 70).2.1 (TX12 70).2.2.1 ∈ WT := wt_of (tb_5 (List.mem_of_getElem? (i := 108) (by decide +kernel))) rfl
theorem fl_12_186 : Cond.fieldLink RX12 186 (TX12 71).1 (TX12 71).2.1 (TX12 71).2.2.1 ∈ WT := wt_of (tb_5 (List.mem_of_getElem? (i := 109) (by decide +kernel))) rfl
theorem fl_12_189 : Cond.fieldLink RX12 189 (TX12 72).1 (TX12 72).2.1 (TX12 72).2.2.1 ∈ WT := wt_of (tb_5 (List.mem_of_getElem? (i := 110) (by decide +kernel))) rfl
theorem fl_12_192 : Cond.fieldLink RX12 192 (TX12 73).1 (TX12 73).2.1 (TX12 73).2.2.1 ∈ WT := wt_of (tb_5 (List.mem_of_getElem? (i := 111) (by decide +kernel))) rfl
theorem fl_12_195 : Cond.fieldLink RX12 195 (TX12 74).1 (TX12 74).2.1 (TX12 74).2.2.1 ∈ WT := wt_of (tb_5 (List.mem_of_getElem? (i := 112) (by decide +kernel))) rfl
theorem fl_12_446 : Cond.fieldLink RX12 446 (TX12 75).1 (TX12 75).2.1 (TX12 75).2.2.1 ∈ WT := wt_of (tb_5 (List.mem_of_getElem? (i := 113) (by decide +kernel))) rfl
theorem fl_12_449 : Cond.fieldLink RX12 449 (TX12 76).1 (TX12 76).2.1 (TX12 76).2.2.1 ∈ WT := wt_of (tb_5 (List.mem_of_getElem? (i := 114) (by decide +kernel))) rfl
theorem fl_12_198 : Cond.fieldLink RX12 198 (TX12 77).1 (TX12 77).2.1 (TX12 77).2.2.1 ∈ WT := wt_of (tb_5 (List.mem_of_getElem? (i := 115) (by decide +kernel))) rfl
theorem fl_12_201 : Cond.fieldLink RX12 201 (TX12 78).1 (TX12 78).2.1 (TX12 78).2.2.1 ∈ WT := wt_of (tb_5 (List.mem_of_getElem? (i := 116) (by decide +kernel))) rfl
theorem fl_12_204 : Cond.fieldLink RX12 204 (TX12 79).1 (TX12 79).2.1 (TX12 79).2.2.1 ∈ WT := wt_of (tb_5 (List.mem_of_getElem? (i := 117) (by decide +kernel))) rfl
theorem fl_12_459 : Cond.fieldLink RX12 459 (TX12 80).1 (TX12 80).2.1 (TX12 80).2.2.1 ∈ WT := wt_of (tb_5 (List.mem_of_getElem? (i := 118) (by decide +kernel))) rfl
theorem ml_L_17 : Cond.methodLink "NearNothingLaw" 17 yX12_room ∈ WT := wt_of (tb_6 (List.mem_of_getElem? (i := 42) (by decide +kernel))) rfl
theorem cw_12_220 : Cond.constantLong RX12 220 (3 : Int64) ∈ WT := wt_of (tb_6 (List.mem_of_getElem? (i := 46) (by decide +kernel))) rfl
theorem ml_12_222 : Cond.methodLink RX12 222 yX12_isIn ∈ WT := wt_of (tb_6 (List.mem_of_getElem? (i := 47) (by decide +kernel))) rfl
theorem ml_12_226 : Cond.methodLink RX12 226 yX12_no ∈ WT := wt_of (tb_6 (List.mem_of_getElem? (i := 50) (by decide +kernel))) rfl
theorem cw_12_230 : Cond.constantLong RX12 230 (99 : Int64) ∈ WT := wt_of (tb_6 (List.mem_of_getElem? (i := 54) (by decide +kernel))) rfl
theorem ml_12_232 : Cond.methodLink RX12 232 yX12_out ∈ WT := wt_of (tb_6 (List.mem_of_getElem? (i := 55) (by decide +kernel))) rfl
theorem ml_12_235 : Cond.methodLink RX12 235 yX12_forgets ∈ WT := wt_of (tb_6 (List.mem_of_getElem? (i := 58) (by decide +kernel))) rfl
theorem ml_L_21 : Cond.methodLink "NearNothingLaw" 21 yX12_warm ∈ WT := wt_of (tb_6 (List.mem_of_getElem? (i := 62) (by decide +kernel))) rfl
theorem ml_12_238 : Cond.methodLink RX12 238 yX12_isRoom ∈ WT := wt_of (tb_6 (List.mem_of_getElem? (i := 66) (by decide +kernel))) rfl
theorem cw_12_242 : Cond.constantLong RX12 242 (9 : Int64) ∈ WT := wt_of (tb_6 (List.mem_of_getElem? (i := 70) (by decide +kernel))) rfl
theorem ml_L_26 : Cond.methodLink "NearNothingLaw" 26 yX12_gas ∈ WT := wt_of (tb_6 (List.mem_of_getElem? (i := 71) (by decide +kernel))) rfl
theorem ml_12_244 : Cond.methodLink RX12 244 yX12_isGas ∈ WT := wt_of (tb_6 (List.mem_of_getElem? (i := 75) (by decide +kernel))) rfl
theorem cw_12_247 : Cond.constantLong RX12 247 (99999 : Int64) ∈ WT := wt_of (tb_6 (List.mem_of_getElem? (i := 78) (by decide +kernel))) rfl
theorem cw_12_249 : Cond.constant RX12 249 (999999 : Int32) ∈ WT := wt_of (tb_6 (List.mem_of_getElem? (i := 79) (by decide +kernel))) rfl
theorem ml_L_31 : Cond.methodLink "NearNothingLaw" 31 yX12_gives ∈ WT := wt_of (tb_6 (List.mem_of_getElem? (i := 80) (by decide +kernel))) rfl
theorem cw_12_250 : Cond.constantLong RX12 250 (500 : Int64) ∈ WT := wt_of (tb_6 (List.mem_of_getElem? (i := 84) (by decide +kernel))) rfl
theorem ml_L_35 : Cond.methodLink "NearNothingLaw" 35 yX12_pipe ∈ WT := wt_of (tb_6 (List.mem_of_getElem? (i := 85) (by decide +kernel))) rfl
theorem ml_L_40 : Cond.methodLink "NearNothingLaw" 40 yX12_pump ∈ WT := wt_of (tb_6 (List.mem_of_getElem? (i := 89) (by decide +kernel))) rfl
theorem cw_12_252 : Cond.constant RX12 252 (99999 : Int32) ∈ WT := wt_of (tb_6 (List.mem_of_getElem? (i := 93) (by decide +kernel))) rfl
theorem ml_L_44 : Cond.methodLink "NearNothingLaw" 44 yX12_leak ∈ WT := wt_of (tb_6 (List.mem_of_getElem? (i := 94) (by decide +kernel))) rfl
theorem cw_12_253 : Cond.constantLong RX12 253 (999 : Int64) ∈ WT := wt_of (tb_6 (List.mem_of_getElem? (i := 98) (by decide +kernel))) rfl
theorem ml_L_49 : Cond.methodLink "NearNothingLaw" 49 yX12_ticks ∈ WT := wt_of (tb_6 (List.mem_of_getElem? (i := 99) (by decide +kernel))) rfl
theorem ml_12_283 : Cond.methodLink RX12 283 yX12_passes ∈ WT := wt_of (tb_6 (List.mem_of_getElem? (i := 103) (by decide +kernel))) rfl
theorem cw_12_268 : Cond.constantLong RX12 268 (1000 : Int64) ∈ WT := wt_of (tb_6 (List.mem_of_getElem? (i := 107) (by decide +kernel))) rfl
theorem ml_12_270 : Cond.methodLink RX12 270 yX12_flows ∈ WT := wt_of (tb_6 (List.mem_of_getElem? (i := 108) (by decide +kernel))) rfl
theorem ml_12_257 : Cond.methodLink RX12 257 yX12_share ∈ WT := wt_of (tb_6 (List.mem_of_getElem? (i := 112) (by decide +kernel))) rfl
theorem cw_12_255 : Cond.constantLong RX12 255 (100 : Int64) ∈ WT := wt_of (tb_6 (List.mem_of_getElem? (i := 116) (by decide +kernel))) rfl
theorem ml_12_261 : Cond.methodLink RX12 261 yX12_moves ∈ WT := wt_of (tb_6 (List.mem_of_getElem? (i := 117) (by decide +kernel))) rfl
theorem ml_12_273 : Cond.methodLink RX12 273 yX12_sucks ∈ WT := wt_of (tb_6 (List.mem_of_getElem? (i := 121) (by decide +kernel))) rfl
theorem ml_12_265 : Cond.methodLink RX12 265 yX12_holds ∈ WT := wt_of (tb_6 (List.mem_of_getElem? (i := 125) (by decide +kernel))) rfl
theorem ml_12_277 : Cond.methodLink RX12 277 yX12_givesBack ∈ WT := wt_of (tb_6 (List.mem_of_getElem? (i := 129) (by decide +kernel))) rfl
theorem ml_L_53 : Cond.methodLink "NearNothingLaw" 53 yX12_in ∈ WT := wt_of (tb_6 (List.mem_of_getElem? (i := 133) (by decide +kernel))) rfl
theorem cw_12_290 : Cond.constantLong RX12 290 (2 : Int64) ∈ WT := wt_of (tb_6 (List.mem_of_getElem? (i := 137) (by decide +kernel))) rfl
theorem ml_12_292 : Cond.methodLink RX12 292 yX12_push ∈ WT := wt_of (tb_6 (List.mem_of_getElem? (i := 138) (by decide +kernel))) rfl
theorem ml_12_286 : Cond.methodLink RX12 286 yX12_least ∈ WT := wt_of (tb_6 (List.mem_of_getElem? (i := 142) (by decide +kernel))) rfl
theorem cw_12_207 : Cond.constantLong RX12 207 (2000000000 : Int64) ∈ WT := wt_of (tb_6 (List.mem_of_getElem? (i := 145) (by decide +kernel))) rfl
theorem cw_12_209 : Cond.constant RX12 209 (2000000000 : Int32) ∈ WT := wt_of (tb_6 (List.mem_of_getElem? (i := 146) (by decide +kernel))) rfl
theorem ml_L_57 : Cond.methodLink "NearNothingLaw" 57 yX12_pumpOf ∈ WT := wt_of (tb_6 (List.mem_of_getElem? (i := 147) (by decide +kernel))) rfl
theorem ml_12_295 : Cond.methodLink RX12 295 yX12_isPump ∈ WT := wt_of (tb_6 (List.mem_of_getElem? (i := 151) (by decide +kernel))) rfl
theorem cw_12_298 : Cond.constantLong RX12 298 (5 : Int64) ∈ WT := wt_of (tb_6 (List.mem_of_getElem? (i := 155) (by decide +kernel))) rfl
theorem ml_L_61 : Cond.methodLink "NearNothingLaw" 61 yX12_all ∈ WT := wt_of (tb_6 (List.mem_of_getElem? (i := 156) (by decide +kernel))) rfl
theorem cw_12_300 : Cond.constantLong RX12 300 (4 : Int64) ∈ WT := wt_of (tb_6 (List.mem_of_getElem? (i := 160) (by decide +kernel))) rfl
theorem ml_L_65 : Cond.methodLink "NearNothingLaw" 65 yX12_when ∈ WT := wt_of (tb_6 (List.mem_of_getElem? (i := 161) (by decide +kernel))) rfl
theorem ml_12_302 : Cond.methodLink RX12 302 yX12_copies ∈ WT := wt_of (tb_6 (List.mem_of_getElem? (i := 165) (by decide +kernel))) rfl
theorem ml_L_72 : Cond.methodLink "NearNothingLaw" 72 yX12_feed ∈ WT := wt_of (tb_6 (List.mem_of_getElem? (i := 169) (by decide +kernel))) rfl
theorem cw_12_306 : Cond.constantLong RX12 306 (8 : Int64) ∈ WT := wt_of (tb_6 (List.mem_of_getElem? (i := 173) (by decide +kernel))) rfl
theorem cw_12_311 : Cond.constantLong RX12 311 (255 : Int64) ∈ WT := wt_of (tb_6 (List.mem_of_getElem? (i := 174) (by decide +kernel))) rfl
theorem ml_L_77 : Cond.methodLink "NearNothingLaw" 77 yX12_rule ∈ WT := wt_of (tb_6 (List.mem_of_getElem? (i := 175) (by decide +kernel))) rfl
theorem ml_12_339 : Cond.methodLink RX12 339 yX12_parses ∈ WT := wt_of (tb_6 (List.mem_of_getElem? (i := 179) (by decide +kernel))) rfl
theorem ml_12_316 : Cond.methodLink RX12 316 yX12_sign ∈ WT := wt_of (tb_6 (List.mem_of_getElem? (i := 183) (by decide +kernel))) rfl
theorem ml_12_323 : Cond.methodLink RX12 323 yX12_digit ∈ WT := wt_of (tb_6 (List.mem_of_getElem? (i := 187) (by decide +kernel))) rfl
theorem ml_12_320 : Cond.methodLink RX12 320 yX12_isDigit ∈ WT := wt_of (tb_6 (List.mem_of_getElem? (i := 191) (by decide +kernel))) rfl
theorem ml_12_330 : Cond.methodLink RX12 330 yX12_compares ∈ WT := wt_of (tb_6 (List.mem_of_getElem? (i := 194) (by decide +kernel))) rfl
theorem ml_12_333 : Cond.methodLink RX12 333 yX12_closes ∈ WT := wt_of (tb_6 (List.mem_of_getElem? (i := 198) (by decide +kernel))) rfl
theorem ml_L_81 : Cond.methodLink "NearNothingLaw" 81 yX12_unrule ∈ WT := wt_of (tb_6 (List.mem_of_getElem? (i := 202) (by decide +kernel))) rfl
theorem ml_L_86 : Cond.methodLink "NearNothingLaw" 86 yX12_forbids ∈ WT := wt_of (tb_6 (List.mem_of_getElem? (i := 206) (by decide +kernel))) rfl
theorem ml_12_342 : Cond.methodLink RX12 342 yX12_isPipe ∈ WT := wt_of (tb_6 (List.mem_of_getElem? (i := 210) (by decide +kernel))) rfl
theorem ml_12_372 : Cond.methodLink RX12 372 yX12_forbidden ∈ WT := wt_of (tb_6 (List.mem_of_getElem? (i := 214) (by decide +kernel))) rfl
theorem ml_12_369 : Cond.methodLink RX12 369 yX12_holdsRule ∈ WT := wt_of (tb_6 (List.mem_of_getElem? (i := 218) (by decide +kernel))) rfl
theorem ml_12_348 : Cond.methodLink RX12 348 yX12_signOf ∈ WT := wt_of (tb_6 (List.mem_of_getElem? (i := 222) (by decide +kernel))) rfl
theorem ml_12_360 : Cond.methodLink RX12 360 yX12_waitsFor ∈ WT := wt_of (tb_6 (List.mem_of_getElem? (i := 226) (by decide +kernel))) rfl
theorem ml_12_363 : Cond.methodLink RX12 363 yX12_compared ∈ WT := wt_of (tb_6 (List.mem_of_getElem? (i := 230) (by decide +kernel))) rfl
theorem ml_12_351 : Cond.methodLink RX12 351 yX12_fact ∈ WT := wt_of (tb_6 (List.mem_of_getElem? (i := 234) (by decide +kernel))) rfl
theorem ml_12_366 : Cond.methodLink RX12 366 yX12_works ∈ WT := wt_of (tb_6 (List.mem_of_getElem? (i := 238) (by decide +kernel))) rfl
theorem ml_L_90 : Cond.methodLink "NearNothingLaw" 90 yX12_valve ∈ WT := wt_of (tb_7 (List.mem_of_getElem? (i := 2) (by decide +kernel))) rfl
theorem ml_12_388 : Cond.methodLink RX12 388 yX12_acts ∈ WT := wt_of (tb_7 (List.mem_of_getElem? (i := 6) (by decide +kernel))) rfl
theorem ml_12_382 : Cond.methodLink RX12 382 yX12_stateOf ∈ WT := wt_of (tb_7 (List.mem_of_getElem? (i := 10) (by decide +kernel))) rfl
theorem ml_12_385 : Cond.methodLink RX12 385 yX12_becomes ∈ WT := wt_of (tb_7 (List.mem_of_getElem? (i := 14) (by decide +kernel))) rfl
theorem ml_L_94 : Cond.methodLink "NearNothingLaw" 94 yX12_start ∈ WT := wt_of (tb_7 (List.mem_of_getElem? (i := 18) (by decide +kernel))) rfl
theorem ml_L_98 : Cond.methodLink "NearNothingLaw" 98 yX12_warmUp ∈ WT := wt_of (tb_7 (List.mem_of_getElem? (i := 22) (by decide +kernel))) rfl
theorem ml_L_102 : Cond.methodLink "NearNothingLaw" 102 yX12_undo ∈ WT := wt_of (tb_7 (List.mem_of_getElem? (i := 26) (by decide +kernel))) rfl
theorem ml_L_106 : Cond.methodLink "NearNothingLaw" 106 yX12_redo ∈ WT := wt_of (tb_7 (List.mem_of_getElem? (i := 30) (by decide +kernel))) rfl
theorem ml_L_110 : Cond.methodLink "NearNothingLaw" 110 yX12_order ∈ WT := wt_of (tb_7 (List.mem_of_getElem? (i := 34) (by decide +kernel))) rfl
theorem ml_12_391 : Cond.methodLink RX12 391 yX12_bits ∈ WT := wt_of (tb_7 (List.mem_of_getElem? (i := 38) (by decide +kernel))) rfl
theorem ml_12_397 : Cond.methodLink RX12 397 yX12_findOrder ∈ WT := wt_of (tb_7 (List.mem_of_getElem? (i := 41) (by decide +kernel))) rfl
theorem ml_12_394 : Cond.methodLink RX12 394 yX12_mayStart ∈ WT := wt_of (tb_7 (List.mem_of_getElem? (i := 45) (by decide +kernel))) rfl
theorem ml_L_115 : Cond.methodLink "NearNothingLaw" 115 yX12_rest ∈ WT := wt_of (tb_7 (List.mem_of_getElem? (i := 49) (by decide +kernel))) rfl
theorem ml_12_413 : Cond.methodLink RX12 413 yX12_solves ∈ WT := wt_of (tb_7 (List.mem_of_getElem? (i := 53) (by decide +kernel))) rfl
theorem ml_12_404 : Cond.methodLink RX12 404 yX12_findParts ∈ WT := wt_of (tb_7 (List.mem_of_getElem? (i := 57) (by decide +kernel))) rfl
theorem ml_12_407 : Cond.methodLink RX12 407 yX12_speedAt ∈ WT := wt_of (tb_7 (List.mem_of_getElem? (i := 61) (by decide +kernel))) rfl
theorem ml_12_410 : Cond.methodLink RX12 410 yX12_shortens ∈ WT := wt_of (tb_7 (List.mem_of_getElem? (i := 65) (by decide +kernel))) rfl
theorem ml_12_400 : Cond.methodLink RX12 400 yX12_divisor ∈ WT := wt_of (tb_7 (List.mem_of_getElem? (i := 69) (by decide +kernel))) rfl
theorem cw_12_416 : Cond.constantLong RX12 416 (-9 : Int64) ∈ WT := wt_of (tb_7 (List.mem_of_getElem? (i := 72) (by decide +kernel))) rfl
theorem ml_L_120 : Cond.methodLink "NearNothingLaw" 120 yX12_square ∈ WT := wt_of (tb_7 (List.mem_of_getElem? (i := 73) (by decide +kernel))) rfl
theorem ml_L_124 : Cond.methodLink "NearNothingLaw" 124 yX12_walks ∈ WT := wt_of (tb_7 (List.mem_of_getElem? (i := 77) (by decide +kernel))) rfl
theorem cw_12_418 : Cond.constantLong RX12 418 (12 : Int64) ∈ WT := wt_of (tb_7 (List.mem_of_getElem? (i := 81) (by decide +kernel))) rfl
theorem ml_L_128 : Cond.methodLink "NearNothingLaw" 128 yX12_sees ∈ WT := wt_of (tb_7 (List.mem_of_getElem? (i := 82) (by decide +kernel))) rfl
theorem ml_L_132 : Cond.methodLink "NearNothingLaw" 132 yX12_reads ∈ WT := wt_of (tb_7 (List.mem_of_getElem? (i := 86) (by decide +kernel))) rfl
theorem ml_12_422 : Cond.methodLink RX12 422 yX12_readsBy ∈ WT := wt_of (tb_7 (List.mem_of_getElem? (i := 90) (by decide +kernel))) rfl
theorem cw_12_420 : Cond.constantLong RX12 420 (10 : Int64) ∈ WT := wt_of (tb_7 (List.mem_of_getElem? (i := 94) (by decide +kernel))) rfl
theorem ml_L_136 : Cond.methodLink "NearNothingLaw" 136 yX12_reading ∈ WT := wt_of (tb_7 (List.mem_of_getElem? (i := 95) (by decide +kernel))) rfl
theorem cw_12_426 : Cond.constantLong RX12 426 (-1 : Int64) ∈ WT := wt_of (tb_7 (List.mem_of_getElem? (i := 99) (by decide +kernel))) rfl
theorem cw_12_428 : Cond.constantLong RX12 428 (9999 : Int64) ∈ WT := wt_of (tb_7 (List.mem_of_getElem? (i := 100) (by decide +kernel))) rfl
theorem ml_L_140 : Cond.methodLink "NearNothingLaw" 140 yX12_trueGas ∈ WT := wt_of (tb_7 (List.mem_of_getElem? (i := 101) (by decide +kernel))) rfl
theorem cw_12_430 : Cond.constantLong RX12 430 (7 : Int64) ∈ WT := wt_of (tb_7 (List.mem_of_getElem? (i := 105) (by decide +kernel))) rfl
theorem ml_12_432 : Cond.methodLink RX12 432 yX12_hidden ∈ WT := wt_of (tb_7 (List.mem_of_getElem? (i := 106) (by decide +kernel))) rfl
theorem cw_12_435 : Cond.constant RX12 435 (68921 : Int32) ∈ WT := wt_of (tb_7 (List.mem_of_getElem? (i := 110) (by decide +kernel))) rfl
theorem ml_L_144 : Cond.methodLink "NearNothingLaw" 144 yX12_stage ∈ WT := wt_of (tb_7 (List.mem_of_getElem? (i := 111) (by decide +kernel))) rfl
theorem ml_L_148 : Cond.methodLink "NearNothingLaw" 148 yX12_restCold ∈ WT := wt_of (tb_7 (List.mem_of_getElem? (i := 115) (by decide +kernel))) rfl
theorem ml_12_439 : Cond.methodLink RX12 439 yX12_rests ∈ WT := wt_of (tb_7 (List.mem_of_getElem? (i := 119) (by decide +kernel))) rfl
theorem ml_12_436 : Cond.methodLink RX12 436 yX12_left ∈ WT := wt_of (tb_7 (List.mem_of_getElem? (i := 123) (by decide +kernel))) rfl
theorem ml_L_152 : Cond.methodLink "NearNothingLaw" 152 yX12_load ∈ WT := wt_of (tb_7 (List.mem_of_getElem? (i := 127) (by decide +kernel))) rfl
theorem cw_12_442 : Cond.constantLong RX12 442 (300 : Int64) ∈ WT := wt_of (tb_7 (List.mem_of_getElem? (i := 131) (by decide +kernel))) rfl
theorem ml_L_156 : Cond.methodLink "NearNothingLaw" 156 yX12_late ∈ WT := wt_of (tb_7 (List.mem_of_getElem? (i := 132) (by decide +kernel))) rfl
theorem cw_12_444 : Cond.constantLong RX12 444 (20 : Int64) ∈ WT := wt_of (tb_7 (List.mem_of_getElem? (i := 136) (by decide +kernel))) rfl
theorem ml_L_160 : Cond.methodLink "NearNothingLaw" 160 yX12_spray ∈ WT := wt_of (tb_7 (List.mem_of_getElem? (i := 137) (by decide +kernel))) rfl
theorem ml_L_164 : Cond.methodLink "NearNothingLaw" 164 yX12_seen ∈ WT := wt_of (tb_7 (List.mem_of_getElem? (i := 141) (by decide +kernel))) rfl
theorem ml_L_168 : Cond.methodLink "NearNothingLaw" 168 yX12_anew ∈ WT := wt_of (tb_7 (List.mem_of_getElem? (i := 145) (by decide +kernel))) rfl
theorem ml_L_172 : Cond.methodLink "NearNothingLaw" 172 yX12_hunt ∈ WT := wt_of (tb_7 (List.mem_of_getElem? (i := 149) (by decide +kernel))) rfl
theorem ml_12_452 : Cond.methodLink RX12 452 yX12_fits ∈ WT := wt_of (tb_7 (List.mem_of_getElem? (i := 153) (by decide +kernel))) rfl
theorem ml_L_177 : Cond.methodLink "NearNothingLaw" 177 yX12_odds ∈ WT := wt_of (tb_7 (List.mem_of_getElem? (i := 157) (by decide +kernel))) rfl
theorem ml_12_455 : Cond.methodLink RX12 455 yX12_ways ∈ WT := wt_of (tb_7 (List.mem_of_getElem? (i := 161) (by decide +kernel))) rfl
theorem ml_L_181 : Cond.methodLink "NearNothingLaw" 181 yX12_offer ∈ WT := wt_of (tb_7 (List.mem_of_getElem? (i := 164) (by decide +kernel))) rfl
theorem ml_L_185 : Cond.methodLink "NearNothingLaw" 185 yX12_plan ∈ WT := wt_of (tb_7 (List.mem_of_getElem? (i := 168) (by decide +kernel))) rfl
theorem ml_12_465 : Cond.methodLink RX12 465 yX12_holdsDown ∈ WT := wt_of (tb_7 (List.mem_of_getElem? (i := 172) (by decide +kernel))) rfl
theorem ml_12_462 : Cond.methodLink RX12 462 yX12_isLeakedInto ∈ WT := wt_of (tb_7 (List.mem_of_getElem? (i := 176) (by decide +kernel))) rfl
theorem ml_L_189 : Cond.methodLink "NearNothingLaw" 189 yX12_count ∈ WT := wt_of (tb_7 (List.mem_of_getElem? (i := 180) (by decide +kernel))) rfl
theorem cw_12_469 : Cond.constantLong RX12 469 (11 : Int64) ∈ WT := wt_of (tb_7 (List.mem_of_getElem? (i := 184) (by decide +kernel))) rfl
theorem cw_12_471 : Cond.constantLong RX12 471 (17 : Int64) ∈ WT := wt_of (tb_7 (List.mem_of_getElem? (i := 185) (by decide +kernel))) rfl
theorem cw_J_66 : Cond.constantLong "NearNothingLaw" 66 (4294967295 : Int64) ∈ WT := wt_of (tb_7 (List.mem_of_getElem? (i := 186) (by decide +kernel))) rfl
