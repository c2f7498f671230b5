theorem dX4_feastsNow_86 : decode cX4_feastsNow 86 = .ok (.getfield 16, 3) := by decide +kernel
theorem dX4_feastsNow_89 : decode cX4_feastsNow 89 = .ok (.iload 6, 2) := by decide +kernel
theorem dX4_feastsNow_91 : decode cX4_feastsNow 91 = .ok (.iaload, 1) := by decide +kernel
theorem dX4_feastsNow_92 : decode cX4_feastsNow 92 = .ok (.aload_n 0, 1) := by decide +kernel
theorem dX4_feastsNow_93 : decode cX4_feastsNow 93 = .ok (.getfield 19, 3) := by decide +kernel
theorem dX4_feastsNow_96 : decode cX4_feastsNow 96 = .ok (.iload 6, 2) := by decide +kernel
theorem dX4_feastsNow_98 : decode cX4_feastsNow 98 = .ok (.iaload, 1) := by decide +kernel
theorem dX4_feastsNow_99 : decode cX4_feastsNow 99 = .ok (.invokevirtual 117, 3) := by decide +kernel
theorem dX4_feastsNow_102 : decode cX4_feastsNow 102 = .ok (.ifCond .eq 7, 3) := by decide +kernel
theorem dX4_feastsNow_105 : decode cX4_feastsNow 105 = .ok (.iconst 0, 1) := by decide +kernel
theorem dX4_feastsNow_106 : decode cX4_feastsNow 106 = .ok (.goto 4, 3) := by decide +kernel
theorem dX4_feastsNow_109 : decode cX4_feastsNow 109 = .ok (.iconst 1, 1) := by decide +kernel
theorem dX4_feastsNow_110 : decode cX4_feastsNow 110 = .ok (.iadd, 1) := by decide +kernel
theorem dX4_feastsNow_111 : decode cX4_feastsNow 111 = .ok (.istore 4, 2) := by decide +kernel
theorem dX4_feastsNow_113 : decode cX4_feastsNow 113 = .ok (.aload_n 0, 1) := by decide +kernel
theorem dX4_feastsNow_114 : decode cX4_feastsNow 114 = .ok (.getfield 7, 3) := by decide +kernel
theorem dX4_feastsNow_117 : decode cX4_feastsNow 117 = .ok (.bipush 10, 2) := by decide +kernel
theorem dX4_feastsNow_119 : decode cX4_feastsNow 119 = .ok (.iload 7, 2) := by decide +kernel
theorem dX4_feastsNow_121 : decode cX4_feastsNow 121 = .ok (.imul, 1) := by decide +kernel
theorem dX4_feastsNow_122 : decode cX4_feastsNow 122 = .ok (.iload 8, 2) := by decide +kernel
theorem dX4_feastsNow_124 : decode cX4_feastsNow 124 = .ok (.iadd, 1) := by decide +kernel
theorem dX4_feastsNow_125 : decode cX4_feastsNow 125 = .ok (.dup2, 1) := by decide +kernel
theorem dX4_feastsNow_126 : decode cX4_feastsNow 126 = .ok (.iaload, 1) := by decide +kernel
theorem dX4_feastsNow_127 : decode cX4_feastsNow 127 = .ok (.iconst 1, 1) := by decide +kernel
theorem dX4_feastsNow_128 : decode cX4_feastsNow 128 = .ok (.isub, 1) := by decide +kernel
theorem dX4_feastsNow_129 : decode cX4_feastsNow 129 = .ok (.iastore, 1) := by decide +kernel
theorem dX4_feastsNow_130 : decode cX4_feastsNow 130 = .ok (.iinc 5 1, 3) := by decide +kernel
theorem dX4_feastsNow_133 : decode cX4_feastsNow 133 = .ok (.goto (-91), 3) := by decide +kernel
theorem dX4_feastsNow_136 : decode cX4_feastsNow 136 = .ok (.aload_n 0, 1) := by decide +kernel
theorem dX4_feastsNow_137 : decode cX4_feastsNow 137 = .ok (.invokevirtual 216, 3) := by decide +kernel
theorem dX4_feastsNow_140 : decode cX4_feastsNow 140 = .ok (.istore 5, 2) := by decide +kernel
theorem dX4_feastsNow_142 : decode cX4_feastsNow 142 = .ok (.iconst 0, 1) := by decide +kernel
theorem dX4_feastsNow_143 : decode cX4_feastsNow 143 = .ok (.istore 6, 2) := by decide +kernel
theorem dX4_feastsNow_145 : decode cX4_feastsNow 145 = .ok (.iload 6, 2) := by decide +kernel
theorem dX4_feastsNow_147 : decode cX4_feastsNow 147 = .ok (.bipush 50, 2) := by decide +kernel
theorem dX4_feastsNow_149 : decode cX4_feastsNow 149 = .ok (.if_icmp .ge 23, 3) := by decide +kernel
theorem dX4_feastsNow_152 : decode cX4_feastsNow 152 = .ok (.aload_n 0, 1) := by decide +kernel
theorem dX4_feastsNow_153 : decode cX4_feastsNow 153 = .ok (.getfield 7, 3) := by decide +kernel
theorem dX4_feastsNow_156 : decode cX4_feastsNow 156 = .ok (.iload 6, 2) := by decide +kernel
theorem dX4_feastsNow_158 : decode cX4_feastsNow 158 = .ok (.aload_n 0, 1) := by decide +kernel
theorem dX4_feastsNow_159 : decode cX4_feastsNow 159 = .ok (.getfield 41, 3) := by decide +kernel
theorem dX4_feastsNow_162 : decode cX4_feastsNow 162 = .ok (.iload 6, 2) := by decide +kernel
theorem dX4_feastsNow_164 : decode cX4_feastsNow 164 = .ok (.iaload, 1) := by decide +kernel
theorem dX4_feastsNow_165 : decode cX4_feastsNow 165 = .ok (.iastore, 1) := by decide +kernel
theorem dX4_feastsNow_166 : decode cX4_feastsNow 166 = .ok (.iinc 6 1, 3) := by decide +kernel
theorem dX4_feastsNow_169 : decode cX4_feastsNow 169 = .ok (.goto (-24), 3) := by decide +kernel
theorem dX4_feastsNow_172 : decode cX4_feastsNow 172 = .ok (.iload_n 3, 1) := by decide +kernel
theorem dX4_feastsNow_173 : decode cX4_feastsNow 173 = .ok (.ifCond .ne 8, 3) := by decide +kernel
theorem dX4_feastsNow_176 : decode cX4_feastsNow 176 = .ok (.iload 4, 2) := by decide +kernel
theorem dX4_feastsNow_178 : decode cX4_feastsNow 178 = .ok (.goto 18, 3) := by decide +kernel
theorem dX4_feastsNow_181 : decode cX4_feastsNow 181 = .ok (.iload_n 3, 1) := by decide +kernel
theorem dX4_feastsNow_182 : decode cX4_feastsNow 182 = .ok (.iconst 1, 1) := by decide +kernel
theorem dX4_feastsNow_183 : decode cX4_feastsNow 183 = .ok (.if_icmp .ne 8, 3) := by decide +kernel
theorem dX4_feastsNow_186 : decode cX4_feastsNow 186 = .ok (.iload 5, 2) := by decide +kernel
theorem dX4_feastsNow_188 : decode cX4_feastsNow 188 = .ok (.goto 8, 3) := by decide +kernel
theorem dX4_feastsNow_191 : decode cX4_feastsNow 191 = .ok (.aload_n 0, 1) := by decide +kernel
theorem dX4_feastsNow_192 : decode cX4_feastsNow 192 = .ok (.getfield 203, 3) := by decide +kernel
theorem dX4_feastsNow_195 : decode cX4_feastsNow 195 = .ok (.l2i, 1) := by decide +kernel
theorem dX4_feastsNow_196 : decode cX4_feastsNow 196 = .ok (.ireturn, 1) := by decide +kernel
set_option maxRecDepth 20000 in
theorem ggX4_feasts_X4_within : GoodIn wsX4_feasts wsX4_within := goodIn_r _ [5] (by decide +kernel) (by decide +kernel)
set_option maxRecDepth 20000 in
theorem gX4_feasts_X4_within : GoodIn wsX4_feasts (va_wsS RX4 56 yX4_within wsX4_within) := goodIn_app (goodIn_of _ (by decide +kernel)) ggX4_feasts_X4_within
set_option maxRecDepth 20000 in
theorem ggX4_feasts_X4_feastsNow : GoodIn wsX4_feasts wsX4_feastsNow := goodIn_r _ [9, 10, 11, 12, 1, 13, 14, 15, 16, 17, 18, 4, 19, 20, 21, 22, 23, 24, 25, 26, 27, 28, 29, 30, 31, 32, 33, 34, 35, 36, 37, 38, 39, 40, 41, 42, 43, 44, 45, 46, 47, 48, 49, 50, 51, 52, 53, 54, 55, 56, 57, 58, 59, 60, 61, 62, 63, 64, 65, 66, 67, 68, 69, 70, 71, 72, 73, 74, 75, 76, 77, 78, 79, 80, 81, 82, 83, 84, 85, 86, 87, 88, 89, 90, 91, 92, 93, 94, 95, 96, 97, 98, 99, 100, 101, 102] (by decide +kernel) (by decide +kernel)
set_option maxRecDepth 20000 in
theorem gX4_feasts_X4_feastsNow : GoodIn wsX4_feasts (wsV RX4 219 RX4 yX4_feastsNow wsX4_feastsNow) := goodIn_app (goodIn_of _ (by decide +kernel)) ggX4_feasts_X4_feastsNow
theorem dX4_feasts_0 : decode cX4_feasts 0 = .ok (.iload_n 1, 1) := by decide +kernel
theorem dX4_feasts_1 : decode cX4_feasts 1 = .ok (.iconst 1, 1) := by decide +kernel
theorem dX4_feasts_2 : decode cX4_feasts 2 = .ok (.bipush 60, 2) := by decide +kernel
theorem dX4_feasts_4 : decode cX4_feasts 4 = .ok (.invokestatic 56, 3) := by decide +kernel
theorem dX4_feasts_7 : decode cX4_feasts 7 = .ok (.ifCond .eq 16, 3) := by decide +kernel
theorem dX4_feasts_10 : decode cX4_feasts 10 = .ok (.iload_n 2, 1) := by decide +kernel
theorem dX4_feasts_11 : decode cX4_feasts 11 = .ok (.ifCond .lt 12, 3) := by decide +kernel
theorem dX4_feasts_14 : decode cX4_feasts 14 = .ok (.iload_n 3, 1) := by decide +kernel
theorem dX4_feasts_15 : decode cX4_feasts 15 = .ok (.iconst 0, 1) := by decide +kernel
theorem dX4_feasts_16 : decode cX4_feasts 16 = .ok (.iconst 2, 1) := by decide +kernel
theorem dX4_feasts_17 : decode cX4_feasts 17 = .ok (.invokestatic 56, 3) := by decide +kernel
theorem dX4_feasts_20 : decode cX4_feasts 20 = .ok (.ifCond .ne 6, 3) := by decide +kernel
theorem dX4_feasts_23 : decode cX4_feasts 23 = .ok (.bipush (-102), 2) := by decide +kernel
theorem dX4_feasts_25 : decode cX4_feasts 25 = .ok (.ireturn, 1) := by decide +kernel
theorem dX4_feasts_26 : decode cX4_feasts 26 = .ok (.aload_n 0, 1) := by decide +kernel
theorem dX4_feasts_27 : decode cX4_feasts 27 = .ok (.getfield 88, 3) := by decide +kernel
theorem dX4_feasts_30 : decode cX4_feasts 30 = .ok (.ifCond .ne 8, 3) := by decide +kernel
theorem dX4_feasts_33 : decode cX4_feasts 33 = .ok (.bipush (-103), 2) := by decide +kernel
theorem dX4_feasts_35 : decode cX4_feasts 35 = .ok (.goto 10, 3) := by decide +kernel
theorem dX4_feasts_38 : decode cX4_feasts 38 = .ok (.aload_n 0, 1) := by decide +kernel
theorem dX4_feasts_39 : decode cX4_feasts 39 = .ok (.iload_n 1, 1) := by decide +kernel
theorem dX4_feasts_40 : decode cX4_feasts 40 = .ok (.iload_n 2, 1) := by decide +kernel
theorem dX4_feasts_41 : decode cX4_feasts 41 = .ok (.iload_n 3, 1) := by decide +kernel
theorem dX4_feasts_42 : decode cX4_feasts 42 = .ok (.invokevirtual 219, 3) := by decide +kernel
theorem dX4_feasts_45 : decode cX4_feasts 45 = .ok (.ireturn, 1) := by decide +kernel
set_option maxRecDepth 20000 in
theorem ggX4_image_X4_litresAll : GoodIn wsX4_image wsX4_litresAll := goodIn_r _ [21, 1, 22, 23, 24, 20, 25, 26, 27, 28, 29, 30, 31, 32, 33, 34, 35, 36, 37, 38, 10, 39, 40, 41, 42, 43, 44, 45, 46, 47, 48, 49, 50, 51, 52, 53, 54, 55, 56, 57, 58, 59, 60, 61, 62, 63, 64, 65, 66, 67, 68, 69, 70, 71, 72] (by decide +kernel) (by decide +kernel)
set_option maxRecDepth 20000 in
theorem gX4_image_X4_litresAll : GoodIn wsX4_image (wsV RX4 216 RX4 yX4_litresAll wsX4_litresAll) := goodIn_app (goodIn_of _ (by decide +kernel)) ggX4_image_X4_litresAll
theorem dX4_image_0 : decode cX4_image 0 = .ok (.aload_n 0, 1) := by decide +kernel
theorem dX4_image_1 : decode cX4_image 1 = .ok (.getfield 82, 3) := by decide +kernel
theorem dX4_image_4 : decode cX4_image 4 = .ok (.ifCond .ne 6, 3) := by decide +kernel
theorem dX4_image_7 : decode cX4_image 7 = .ok (.bipush (-103), 2) := by decide +kernel
theorem dX4_image_9 : decode cX4_image 9 = .ok (.ireturn, 1) := by decide +kernel
theorem dX4_image_10 : decode cX4_image 10 = .ok (.aload_n 0, 1) := by decide +kernel
theorem dX4_image_11 : decode cX4_image 11 = .ok (.iconst 1, 1) := by decide +kernel
theorem dX4_image_12 : decode cX4_image 12 = .ok (.putfield 222, 3) := by decide +kernel
theorem dX4_image_15 : decode cX4_image 15 = .ok (.aload_n 0, 1) := by decide +kernel
theorem dX4_image_16 : decode cX4_image 16 = .ok (.aload_n 0, 1) := by decide +kernel
theorem dX4_image_17 : decode cX4_image 17 = .ok (.getfield 85, 3) := by decide +kernel
theorem dX4_image_20 : decode cX4_image 20 = .ok (.putfield 225, 3) := by decide +kernel
theorem dX4_image_23 : decode cX4_image 23 = .ok (.aload_n 0, 1) := by decide +kernel
theorem dX4_image_24 : decode cX4_image 24 = .ok (.aload_n 0, 1) := by decide +kernel
theorem dX4_image_25 : decode cX4_image 25 = .ok (.getfield 88, 3) := by decide +kernel
theorem dX4_image_28 : decode cX4_image 28 = .ok (.putfield 228, 3) := by decide +kernel
theorem dX4_image_31 : decode cX4_image 31 = .ok (.aload_n 0, 1) := by decide +kernel
theorem dX4_image_32 : decode cX4_image 32 = .ok (.aload_n 0, 1) := by decide +kernel
theorem dX4_image_33 : decode cX4_image 33 = .ok (.getfield 91, 3) := by decide +kernel
theorem dX4_image_36 : decode cX4_image 36 = .ok (.putfield 231, 3) := by decide +kernel
theorem dX4_image_39 : decode cX4_image 39 = .ok (.iconst 0, 1) := by decide +kernel
theorem dX4_image_40 : decode cX4_image 40 = .ok (.istore_n 1, 1) := by decide +kernel
theorem dX4_image_41 : decode cX4_image 41 = .ok (.iload_n 1, 1) := by decide +kernel
theorem dX4_image_42 : decode cX4_image 42 = .ok (.bipush 50, 2) := by decide +kernel
theorem dX4_image_44 : decode cX4_image 44 = .ok (.if_icmp .ge 21, 3) := by decide +kernel
theorem dX4_image_47 : decode cX4_image 47 = .ok (.aload_n 0, 1) := by decide +kernel
theorem dX4_image_48 : decode cX4_image 48 = .ok (.getfield 44, 3) := by decide +kernel
theorem dX4_image_51 : decode cX4_image 51 = .ok (.iload_n 1, 1) := by decide +kernel
theorem dX4_image_52 : decode cX4_image 52 = .ok (.aload_n 0, 1) := by decide +kernel
theorem dX4_image_53 : decode cX4_image 53 = .ok (.getfield 7, 3) := by decide +kernel
theorem dX4_image_56 : decode cX4_image 56 = .ok (.iload_n 1, 1) := by decide +kernel
theorem dX4_image_57 : decode cX4_image 57 = .ok (.iaload, 1) := by decide +kernel
theorem dX4_image_58 : decode cX4_image 58 = .ok (.iastore, 1) := by decide +kernel
theorem dX4_image_59 : decode cX4_image 59 = .ok (.iinc 1 1, 3) := by decide +kernel
theorem dX4_image_62 : decode cX4_image 62 = .ok (.goto (-21), 3) := by decide +kernel
theorem dX4_image_65 : decode cX4_image 65 = .ok (.iconst 0, 1) := by decide +kernel
theorem dX4_image_66 : decode cX4_image 66 = .ok (.istore_n 1, 1) := by decide +kernel
theorem dX4_image_67 : decode cX4_image 67 = .ok (.iload_n 1, 1) := by decide +kernel
theorem dX4_image_68 : decode cX4_image 68 = .ok (.iconst 5, 1) := by decide +kernel
theorem dX4_image_69 : decode cX4_image 69 = .ok (.if_icmp .ge 21, 3) := by decide +kernel
theorem dX4_image_72 : decode cX4_image 72 = .ok (.aload_n 0, 1) := by decide +kernel
theorem dX4_image_73 : decode cX4_image 73 = .ok (.getfield 47, 3) := by decide +kernel
theorem dX4_image_76 : decode cX4_image 76 = .ok (.iload_n 1, 1) := by decide +kernel
theorem dX4_image_77 : decode cX4_image 77 = .ok (.aload_n 0, 1) := by decide +kernel
theorem dX4_image_78 : decode cX4_image 78 = .ok (.getfield 22, 3) := by decide +kernel
theorem dX4_image_81 : decode cX4_image 81 = .ok (.iload_n 1, 1) := by decide +kernel
theorem dX4_image_82 : decode cX4_image 82 = .ok (.iaload, 1) := by decide +kernel
theorem dX4_image_83 : decode cX4_image 83 = .ok (.iastore, 1) := by decide +kernel
theorem dX4_image_84 : decode cX4_image 84 = .ok (.iinc 1 1, 3) := by decide +kernel
theorem dX4_image_87 : decode cX4_image 87 = .ok (.goto (-20), 3) := by decide +kernel
theorem dX4_image_90 : decode cX4_image 90 = .ok (.iconst 0, 1) := by decide +kernel
theorem dX4_image_91 : decode cX4_image 91 = .ok (.istore_n 1, 1) := by decide +kernel
theorem dX4_image_92 : decode cX4_image 92 = .ok (.iload_n 1, 1) := by decide +kernel
theorem dX4_image_93 : decode cX4_image 93 = .ok (.bipush 8, 2) := by decide +kernel
theorem dX4_image_95 : decode cX4_image 95 = .ok (.if_icmp .ge 33, 3) := by decide +kernel
theorem dX4_image_98 : decode cX4_image 98 = .ok (.aload_n 0, 1) := by decide +kernel
theorem dX4_image_99 : decode cX4_image 99 = .ok (.getfield 50, 3) := by decide +kernel
theorem dX4_image_102 : decode cX4_image 102 = .ok (.iload_n 1, 1) := by decide +kernel
theorem dX4_image_103 : decode cX4_image 103 = .ok (.aload_n 0, 1) := by decide +kernel
theorem dX4_image_104 : decode cX4_image 104 = .ok (.getfield 25, 3) := by decide +kernel
theorem dX4_image_107 : decode cX4_image 107 = .ok (.iload_n 1, 1) := by decide +kernel
theorem dX4_image_108 : decode cX4_image 108 = .ok (.iaload, 1) := by decide +kernel
theorem dX4_image_109 : decode cX4_image 109 = .ok (.iastore, 1) := by decide +kernel
theorem dX4_image_110 : decode cX4_image 110 = .ok (.aload_n 0, 1) := by decide +kernel
theorem dX4_image_111 : decode cX4_image 111 = .ok (.getfield 53, 3) := by decide +kernel
theorem dX4_image_114 : decode cX4_image 114 = .ok (.iload_n 1, 1) := by decide +kernel
theorem dX4_image_115 : decode cX4_image 115 = .ok (.aload_n 0, 1) := by decide +kernel
theorem dX4_image_116 : decode cX4_image 116 = .ok (.getfield 28, 3) := by decide +kernel
theorem dX4_image_119 : decode cX4_image 119 = .ok (.iload_n 1, 1) := by decide +kernel
theorem dX4_image_120 : decode cX4_image 120 = .ok (.iaload, 1) := by decide +kernel
theorem dX4_image_121 : decode cX4_image 121 = .ok (.iastore, 1) := by decide +kernel
theorem dX4_image_122 : decode cX4_image 122 = .ok (.iinc 1 1, 3) := by decide +kernel
theorem dX4_image_125 : decode cX4_image 125 = .ok (.goto (-33), 3) := by decide +kernel
theorem dX4_image_128 : decode cX4_image 128 = .ok (.aload_n 0, 1) := by decide +kernel
theorem dX4_image_129 : decode cX4_image 129 = .ok (.invokevirtual 216, 3) := by decide +kernel
theorem dX4_image_132 : decode cX4_image 132 = .ok (.ireturn, 1) := by decide +kernel
set_option maxRecDepth 20000 in
theorem ggX4_restore_X4_litresAll : GoodIn wsX4_restore wsX4_litresAll := goodIn_r _ [20, 21, 22, 23, 24, 19, 25, 26, 27, 28, 29, 30, 31, 32, 33, 34, 35, 36, 37, 38, 8, 39, 40, 41, 42, 43, 44, 45, 46, 47, 48, 49, 50, 51, 52, 53, 54, 55, 56, 57, 58, 59, 60, 61, 62, 63, 64, 65, 66, 67, 68, 69, 70, 71, 72] (by decide +kernel) (by decide +kernel)
set_option maxRecDepth 20000 in
theorem gX4_restore_X4_litresAll : GoodIn wsX4_restore (wsV RX4 216 RX4 yX4_litresAll wsX4_litresAll) := goodIn_app (goodIn_of _ (by decide +kernel)) ggX4_restore_X4_litresAll
theorem dX4_restore_0 : decode cX4_restore 0 = .ok (.aload_n 0, 1) := by decide +kernel
theorem dX4_restore_1 : decode cX4_restore 1 = .ok (.getfield 222, 3) := by decide +kernel
theorem dX4_restore_4 : decode cX4_restore 4 = .ok (.ifCond .eq 14, 3) := by decide +kernel
theorem dX4_restore_7 : decode cX4_restore 7 = .ok (.aload_n 0, 1) := by decide +kernel
theorem dX4_restore_8 : decode cX4_restore 8 = .ok (.getfield 225, 3) := by decide +kernel
theorem dX4_restore_11 : decode cX4_restore 11 = .ok (.aload_n 0, 1) := by decide +kernel
theorem dX4_restore_12 : decode cX4_restore 12 = .ok (.getfield 85, 3) := by decide +kernel
theorem dX4_restore_15 : decode cX4_restore 15 = .ok (.if_icmp .eq 6, 3) := by decide +kernel
theorem dX4_restore_18 : decode cX4_restore 18 = .ok (.bipush (-103), 2) := by decide +kernel
theorem dX4_restore_20 : decode cX4_restore 20 = .ok (.ireturn, 1) := by decide +kernel
theorem dX4_restore_21 : decode cX4_restore 21 = .ok (.aload_n 0, 1) := by decide +kernel
theorem dX4_restore_22 : decode cX4_restore 22 = .ok (.aload_n 0, 1) := by decide +kernel
theorem dX4_restore_23 : decode cX4_restore 23 = .ok (.getfield 228, 3) := by decide +kernel
theorem dX4_restore_26 : decode cX4_restore 26 = .ok (.putfield 88, 3) := by decide +kernel
theorem dX4_restore_29 : decode cX4_restore 29 = .ok (.aload_n 0, 1) := by decide +kernel
theorem dX4_restore_30 : decode cX4_restore 30 = .ok (.aload_n 0, 1) := by decide +kernel
theorem dX4_restore_31 : decode cX4_restore 31 = .ok (.getfield 231, 3) := by decide +kernel
theorem dX4_restore_34 : decode cX4_restore 34 = .ok (.putfield 91, 3) := by decide +kernel
theorem dX4_restore_37 : decode cX4_restore 37 = .ok (.iconst 0, 1) := by decide +kernel
theorem dX4_restore_38 : decode cX4_restore 38 = .ok (.istore_n 1, 1) := by decide +kernel
theorem dX4_restore_39 : decode cX4_restore 39 = .ok (.iload_n 1, 1) := by decide +kernel
theorem dX4_restore_40 : decode cX4_restore 40 = .ok (.bipush 50, 2) := by decide +kernel
theorem dX4_restore_42 : decode cX4_restore 42 = .ok (.if_icmp .ge 21, 3) := by decide +kernel
theorem dX4_restore_45 : decode cX4_restore 45 = .ok (.aload_n 0, 1) := by decide +kernel
theorem dX4_restore_46 : decode cX4_restore 46 = .ok (.getfield 7, 3) := by decide +kernel
theorem dX4_restore_49 : decode cX4_restore 49 = .ok (.iload_n 1, 1) := by decide +kernel
theorem dX4_restore_50 : decode cX4_restore 50 = .ok (.aload_n 0, 1) := by decide +kernel
theorem dX4_restore_51 : decode cX4_restore 51 = .ok (.getfield 44, 3) := by decide +kernel
theorem dX4_restore_54 : decode cX4_restore 54 = .ok (.iload_n 1, 1) := by decide +kernel
theorem dX4_restore_55 : decode cX4_restore 55 = .ok (.iaload, 1) := by decide +kernel
theorem dX4_restore_56 : decode cX4_restore 56 = .ok (.iastore, 1) := by decide +kernel
theorem dX4_restore_57 : decode cX4_restore 57 = .ok (.iinc 1 1, 3) := by decide +kernel
theorem dX4_restore_60 : decode cX4_restore 60 = .ok (.goto (-21), 3) := by decide +kernel
theorem dX4_restore_63 : decode cX4_restore 63 = .ok (.iconst 0, 1) := by decide +kernel
theorem dX4_restore_64 : decode cX4_restore 64 = .ok (.istore_n 1, 1) := by decide +kernel
theorem dX4_restore_65 : decode cX4_restore 65 = .ok (.iload_n 1, 1) := by decide +kernel
theorem dX4_restore_66 : decode cX4_restore 66 = .ok (.iconst 5, 1) := by decide +kernel
theorem dX4_restore_67 : decode cX4_restore 67 = .ok (.if_icmp .ge 21, 3) := by decide +kernel
theorem dX4_restore_70 : decode cX4_restore 70 = .ok (.aload_n 0, 1) := by decide +kernel
theorem dX4_restore_71 : decode cX4_restore 71 = .ok (.getfield 22, 3) := by decide +kernel
theorem dX4_restore_74 : decode cX4_restore 74 = .ok (.iload_n 1, 1) := by decide +kernel
theorem dX4_restore_75 : decode cX4_restore 75 = .ok (.aload_n 0, 1) := by decide +kernel
theorem dX4_restore_76 : decode cX4_restore 76 = .ok (.getfield 47, 3) := by decide +kernel
theorem dX4_restore_79 : decode cX4_restore 79 = .ok (.iload_n 1, 1) := by decide +kernel
theorem dX4_restore_80 : decode cX4_restore 80 = .ok (.iaload, 1) := by decide +kernel
theorem dX4_restore_81 : decode cX4_restore 81 = .ok (.iastore, 1) := by decide +kernel
theorem dX4_restore_82 : decode cX4_restore 82 = .ok (.iinc 1 1, 3) := by decide +kernel
theorem dX4_restore_85 : decode cX4_restore 85 = .ok (.goto (-20), 3) := by decide +kernel
theorem dX4_restore_88 : decode cX4_restore 88 = .ok (.iconst 0, 1) := by decide +kernel
theorem dX4_restore_89 : decode cX4_restore 89 = .ok (.istore_n 1, 1) := by decide +kernel
theorem dX4_restore_90 : decode cX4_restore 90 = .ok (.iload_n 1, 1) := by decide +kernel
theorem dX4_restore_91 : decode cX4_restore 91 = .ok (.bipush 8, 2) := by decide +kernel
theorem dX4_restore_93 : decode cX4_restore 93 = .ok (.if_icmp .ge 33, 3) := by decide +kernel
theorem dX4_restore_96 : decode cX4_restore 96 = .ok (.aload_n 0, 1) := by decide +kernel
theorem dX4_restore_97 : decode cX4_restore 97 = .ok (.getfield 25, 3) := by decide +kernel
theorem dX4_restore_100 : decode cX4_restore 100 = .ok (.iload_n 1, 1) := by decide +kernel
theorem dX4_restore_101 : decode cX4_restore 101 = .ok (.aload_n 0, 1) := by decide +kernel
theorem dX4_restore_102 : decode cX4_restore 102 = .ok (.getfield 50, 3) := by decide +kernel
theorem dX4_restore_105 : decode cX4_restore 105 = .ok (.iload_n 1, 1) := by decide +kernel
theorem dX4_restore_106 : decode cX4_restore 106 = .ok (.iaload, 1) := by decide +kernel
theorem dX4_restore_107 : decode cX4_restore 107 = .ok (.iastore, 1) := by decide +kernel
theorem dX4_restore_108 : decode cX4_restore 108 = .ok (.aload_n 0, 1) := by decide +kernel
theorem dX4_restore_109 : decode cX4_restore 109 = .ok (.getfield 28, 3) := by decide +kernel
theorem dX4_restore_112 : decode cX4_restore 112 = .ok (.iload_n 1, 1) := by decide +kernel
theorem dX4_restore_113 : decode cX4_restore 113 = .ok (.aload_n 0, 1) := by decide +kernel
theorem dX4_restore_114 : decode cX4_restore 114 = .ok (.getfield 53, 3) := by decide +kernel
theorem dX4_restore_117 : decode cX4_restore 117 = .ok (.iload_n 1, 1) := by decide +kernel
theorem dX4_restore_118 : decode cX4_restore 118 = .ok (.iaload, 1) := by decide +kernel
theorem dX4_restore_119 : decode cX4_restore 119 = .ok (.iastore, 1) := by decide +kernel
theorem dX4_restore_120 : decode cX4_restore 120 = .ok (.iinc 1 1, 3) := by decide +kernel
theorem dX4_restore_123 : decode cX4_restore 123 = .ok (.goto (-33), 3) := by decide +kernel
theorem dX4_restore_126 : decode cX4_restore 126 = .ok (.aload_n 0, 1) := by decide +kernel
theorem dX4_restore_127 : decode cX4_restore 127 = .ok (.invokevirtual 216, 3) := by decide +kernel
theorem dX4_restore_130 : decode cX4_restore 130 = .ok (.ireturn, 1) := by decide +kernel
theorem dX4_illAll_0 : decode cX4_illAll 0 = .ok (.iconst 0, 1) := by decide +kernel
theorem dX4_illAll_1 : decode cX4_illAll 1 = .ok (.istore_n 1, 1) := by decide +kernel
theorem dX4_illAll_2 : decode cX4_illAll 2 = .ok (.iconst 0, 1) := by decide +kernel
theorem dX4_illAll_3 : decode cX4_illAll 3 = .ok (.istore_n 2, 1) := by decide +kernel
theorem dX4_illAll_4 : decode cX4_illAll 4 = .ok (.iload_n 2, 1) := by decide +kernel
theorem dX4_illAll_5 : decode cX4_illAll 5 = .ok (.aload_n 0, 1) := by decide +kernel
theorem dX4_illAll_6 : decode cX4_illAll 6 = .ok (.getfield 88, 3) := by decide +kernel
theorem dX4_illAll_9 : decode cX4_illAll 9 = .ok (.if_icmp .ge 18, 3) := by decide +kernel
theorem dX4_illAll_12 : decode cX4_illAll 12 = .ok (.iload_n 1, 1) := by decide +kernel
theorem dX4_illAll_13 : decode cX4_illAll 13 = .ok (.aload_n 0, 1) := by decide +kernel
theorem dX4_illAll_14 : decode cX4_illAll 14 = .ok (.getfield 22, 3) := by decide +kernel
theorem dX4_illAll_17 : decode cX4_illAll 17 = .ok (.iload_n 2, 1) := by decide +kernel
theorem dX4_illAll_18 : decode cX4_illAll 18 = .ok (.iaload, 1) := by decide +kernel
theorem dX4_illAll_19 : decode cX4_illAll 19 = .ok (.iadd, 1) := by decide +kernel
theorem dX4_illAll_20 : decode cX4_illAll 20 = .ok (.istore_n 1, 1) := by decide +kernel
theorem dX4_illAll_21 : decode cX4_illAll 21 = .ok (.iinc 2 1, 3) := by decide +kernel
theorem dX4_illAll_24 : decode cX4_illAll 24 = .ok (.goto (-20), 3) := by decide +kernel
theorem dX4_illAll_27 : decode cX4_illAll 27 = .ok (.iload_n 1, 1) := by decide +kernel
theorem dX4_illAll_28 : decode cX4_illAll 28 = .ok (.ireturn, 1) := by decide +kernel
set_option maxRecDepth 20000 in
theorem ggX4_howMany_X4_litresAll : GoodIn wsX4_howMany wsX4_litresAll := goodIn_r _ [11, 2, 12, 13, 14, 10, 15, 16, 17, 18, 19, 20, 21, 22, 23, 24, 25, 26, 27, 28, 29, 30, 31, 32, 33, 39, 40, 41, 42, 43, 44, 45, 46, 47, 48, 49, 50, 51, 52, 53, 54, 55, 56, 57, 58, 59, 60, 61, 62, 63, 64, 65, 66, 67, 68] (by decide +kernel) (by decide +kernel)
set_option maxRecDepth 20000 in
theorem gX4_howMany_X4_litresAll : GoodIn wsX4_howMany (wsV RX4 216 RX4 yX4_litresAll wsX4_litresAll) := goodIn_app (goodIn_of _ (by decide +kernel)) ggX4_howMany_X4_litresAll
set_option maxRecDepth 20000 in
theorem ggX4_howMany_X4_illAll : GoodIn wsX4_howMany wsX4_illAll := goodIn_r _ [37, 3, 38, 39, 40, 41, 42, 43, 44, 45, 46, 47, 48, 49, 50, 51, 52, 53, 54, 55, 56, 57, 58, 59, 60, 61, 62, 63, 64, 65, 66, 67, 68] (by decide +kernel) (by decide +kernel)
set_option maxRecDepth 20000 in
theorem gX4_howMany_X4_illAll : GoodIn wsX4_howMany (wsV RX4 234 RX4 yX4_illAll wsX4_illAll) := goodIn_app (goodIn_of _ (by decide +kernel)) ggX4_howMany_X4_illAll
theorem dX4_howMany_0 : decode cX4_howMany 0 = .ok (.iload_n 1, 1) := by decide +kernel
theorem dX4_howMany_1 : decode cX4_howMany 1 = .ok (.tableswitch 87 0 7 #[47, 52, 57, 62, 67, 72, 77, 82], 47) := by decide +kernel
theorem dX4_howMany_48 : decode cX4_howMany 48 = .ok (.aload_n 0, 1) := by decide +kernel
theorem dX4_howMany_49 : decode cX4_howMany 49 = .ok (.getfield 79, 3) := by decide +kernel
theorem dX4_howMany_52 : decode cX4_howMany 52 = .ok (.ireturn, 1) := by decide +kernel
theorem dX4_howMany_53 : decode cX4_howMany 53 = .ok (.aload_n 0, 1) := by decide +kernel
theorem dX4_howMany_54 : decode cX4_howMany 54 = .ok (.getfield 82, 3) := by decide +kernel
theorem dX4_howMany_57 : decode cX4_howMany 57 = .ok (.ireturn, 1) := by decide +kernel
theorem dX4_howMany_58 : decode cX4_howMany 58 = .ok (.aload_n 0, 1) := by decide +kernel
theorem dX4_howMany_59 : decode cX4_howMany 59 = .ok (.invokevirtual 216, 3) := by decide +kernel
theorem dX4_howMany_62 : decode cX4_howMany 62 = .ok (.ireturn, 1) := by decide +kernel
theorem dX4_howMany_63 : decode cX4_howMany 63 = .ok (.aload_n 0, 1) := by decide +kernel
theorem dX4_howMany_64 : decode cX4_howMany 64 = .ok (.getfield 88, 3) := by decide +kernel
theorem dX4_howMany_67 : decode cX4_howMany 67 = .ok (.ireturn, 1) := by decide +kernel
theorem dX4_howMany_68 : decode cX4_howMany 68 = .ok (.aload_n 0, 1) := by decide +kernel
theorem dX4_howMany_69 : decode cX4_howMany 69 = .ok (.invokevirtual 234, 3) := by decide +kernel
theorem dX4_howMany_72 : decode cX4_howMany 72 = .ok (.ireturn, 1) := by decide +kernel
theorem dX4_howMany_73 : decode cX4_howMany 73 = .ok (.aload_n 0, 1) := by decide +kernel
theorem dX4_howMany_74 : decode cX4_howMany 74 = .ok (.getfield 91, 3) := by decide +kernel
theorem dX4_howMany_77 : decode cX4_howMany 77 = .ok (.ireturn, 1) := by decide +kernel
theorem dX4_howMany_78 : decode cX4_howMany 78 = .ok (.aload_n 0, 1) := by decide +kernel
theorem dX4_howMany_79 : decode cX4_howMany 79 = .ok (.getfield 60, 3) := by decide +kernel
theorem dX4_howMany_82 : decode cX4_howMany 82 = .ok (.ireturn, 1) := by decide +kernel
theorem dX4_howMany_83 : decode cX4_howMany 83 = .ok (.aload_n 0, 1) := by decide +kernel
theorem dX4_howMany_84 : decode cX4_howMany 84 = .ok (.getfield 85, 3) := by decide +kernel
theorem dX4_howMany_87 : decode cX4_howMany 87 = .ok (.ireturn, 1) := by decide +kernel
theorem dX4_howMany_88 : decode cX4_howMany 88 = .ok (.bipush (-102), 2) := by decide +kernel
theorem dX4_howMany_90 : decode cX4_howMany 90 = .ok (.ireturn, 1) := by decide +kernel
set_option maxRecDepth 20000 in
theorem ggX4_count_X4_howMany : GoodIn wsX4_count wsX4_howMany := goodIn_r _ [5, 6, 7, 8, 9, 10, 11, 12, 13, 14, 4, 15, 16, 17, 18, 19, 20, 21, 22, 23, 24, 25, 26, 27, 28, 29, 30, 31, 32, 33, 34, 35, 36, 37, 38, 39, 40, 41, 42, 43, 44, 45, 46, 47, 48, 49, 50, 51, 52, 53, 54, 55, 56, 57, 58, 59, 60, 61, 62, 63, 64, 65, 66, 67, 68, 69, 70, 71, 72] (by decide +kernel) (by decide +kernel)
set_option maxRecDepth 20000 in
theorem gX4_count_X4_howMany : GoodIn wsX4_count (wsV RX4 237 RX4 yX4_howMany wsX4_howMany) := goodIn_app (goodIn_of _ (by decide +kernel)) ggX4_count_X4_howMany
theorem dX4_count_0 : decode cX4_count 0 = .ok (.aload_n 0, 1) := by decide +kernel
theorem dX4_count_1 : decode cX4_count 1 = .ok (.iload_n 1, 1) := by decide +kernel
theorem dX4_count_2 : decode cX4_count 2 = .ok (.invokevirtual 237, 3) := by decide +kernel
theorem dX4_count_5 : decode cX4_count 5 = .ok (.ireturn, 1) := by decide +kernel
theorem dX4_mix_0 : decode cX4_mix 0 = .ok (.aload_n 0, 1) := by decide +kernel
theorem dX4_mix_1 : decode cX4_mix 1 = .ok (.ldc2_w 240, 3) := by decide +kernel
theorem dX4_mix_4 : decode cX4_mix 4 = .ok (.aload_n 0, 1) := by decide +kernel
theorem dX4_mix_5 : decode cX4_mix 5 = .ok (.getfield 242, 3) := by decide +kernel
theorem dX4_mix_8 : decode cX4_mix 8 = .ok (.lmul, 1) := by decide +kernel
theorem dX4_mix_9 : decode cX4_mix 9 = .ok (.lload_n 1, 1) := by decide +kernel
theorem dX4_mix_10 : decode cX4_mix 10 = .ok (.ladd, 1) := by decide +kernel
theorem dX4_mix_11 : decode cX4_mix 11 = .ok (.putfield 242, 3) := by decide +kernel
theorem dX4_mix_14 : decode cX4_mix 14 = .ok (.return_, 1) := by decide +kernel
set_option maxRecDepth 20000 in
theorem ggX4_mixCellar_X4_tableNow : GoodIn wsX4_mixCellar wsX4_tableNow := goodIn_r _ [6, 1, 7, 8, 9, 10, 5, 11, 12, 13, 14, 15, 16, 17, 18, 19, 20, 21, 22, 23, 24, 25, 26, 27, 28, 29, 30, 31, 32, 33, 34, 35, 36, 37, 38, 39, 40, 41, 42, 43, 44, 45, 46, 47, 48, 49, 50, 51, 52, 53, 54, 55, 56, 57, 58, 59, 60, 61, 62, 63, 64, 99, 100, 101, 102, 103, 104, 105, 106, 107, 108, 109, 110, 111, 112, 113, 114, 115, 116, 117, 118, 119, 120, 121, 122, 123, 124, 125, 126, 127, 128] (by decide +kernel) (by decide +kernel)
set_option maxRecDepth 20000 in
theorem gX4_mixCellar_X4_tableNow : GoodIn wsX4_mixCellar (wsV RX4 162 RX4 yX4_tableNow wsX4_tableNow) := goodIn_app (goodIn_of _ (by decide +kernel)) ggX4_mixCellar_X4_tableNow
set_option maxRecDepth 20000 in
theorem ggX4_mixCellar_X4_mix : GoodIn wsX4_mixCellar wsX4_mix := goodIn_r _ [68, 69, 70, 99, 100, 101, 102, 103, 104, 105, 106, 107, 108, 109, 110, 111, 112, 113, 114, 115, 116, 117, 118, 119, 120, 121, 122, 123, 124, 125, 126, 127, 128] (by decide +kernel) (by decide +kernel)
set_option maxRecDepth 20000 in
theorem gX4_mixCellar_X4_mix : GoodIn wsX4_mixCellar (wsV RX4 245 RX4 yX4_mix wsX4_mix) := goodIn_app (goodIn_of _ (by decide +kernel)) ggX4_mixCellar_X4_mix
set_option maxRecDepth 20000 in
theorem ggX4_mixCellar_X4_blendNow : GoodIn wsX4_mixCellar wsX4_blendNow := goodIn_r _ [74, 12, 50, 51, 5, 52, 75, 76, 77, 78, 19, 20, 21, 22, 23, 62, 63, 64, 38, 39, 40, 41, 24, 25, 26, 27, 28, 79, 80, 81, 82, 1, 13, 14, 29, 30, 31, 32, 33, 34, 35, 36, 37, 42, 43, 44, 45, 46, 47, 48, 49, 99, 100, 101, 102, 103, 104, 105, 106, 107, 108, 109, 110, 111, 112, 113, 114, 115, 116, 117, 118, 119, 120, 121, 122, 123, 124, 125, 126, 127, 128] (by decide +kernel) (by decide +kernel)
set_option maxRecDepth 20000 in
theorem gX4_mixCellar_X4_blendNow : GoodIn wsX4_mixCellar (wsV RX4 168 RX4 yX4_blendNow wsX4_blendNow) := goodIn_app (goodIn_of _ (by decide +kernel)) ggX4_mixCellar_X4_blendNow
set_option maxRecDepth 20000 in
theorem ggX4_mixCellar_X4_birthsNow : GoodIn wsX4_mixCellar wsX4_birthsNow := goodIn_r _ [86, 87, 88, 89, 5, 90, 91, 92, 93, 15, 16, 17, 18, 19, 20, 21, 22, 23, 24, 25, 26, 27, 28, 29, 30, 31, 32, 33, 34, 35, 36, 37, 38, 39, 40, 41, 42, 43, 44, 45, 46, 47, 48, 49, 50, 51, 52, 99, 100, 101, 102, 103, 104, 105, 106, 107, 108, 109, 110, 111, 112, 113, 114, 115, 116, 117, 118, 119, 120, 121, 122, 123, 124, 125, 126, 127, 128] (by decide +kernel) (by decide +kernel)
set_option maxRecDepth 20000 in
theorem gX4_mixCellar_X4_birthsNow : GoodIn wsX4_mixCellar (wsV RX4 185 RX4 yX4_birthsNow wsX4_birthsNow) := goodIn_app (goodIn_of _ (by decide +kernel)) ggX4_mixCellar_X4_birthsNow
set_option maxRecDepth 20000 in
theorem ggX4_mixCellar_X4_askNow : GoodIn wsX4_mixCellar wsX4_askNow := goodIn_r _ [97, 98, 12, 83, 84, 85, 5, 86, 87, 88, 89, 90, 91, 92, 93, 15, 16, 17, 18, 19, 20, 21, 22, 23, 24, 25, 26, 27, 28, 29, 30, 31, 32, 33, 34, 35, 36, 37, 38, 39, 40, 41, 42, 43, 44, 45, 46, 47, 48, 49, 50, 51, 52, 62, 63, 64, 99, 100, 101, 102, 103, 104, 105, 106, 107, 108, 109, 110, 111, 112, 113, 114, 115, 116, 117, 118, 119, 120, 121, 122, 123, 124, 125, 126, 127, 128] (by decide +kernel) (by decide +kernel)
set_option maxRecDepth 20000 in
theorem gX4_mixCellar_X4_askNow : GoodIn wsX4_mixCellar (wsV RX4 189 RX4 yX4_askNow wsX4_askNow) := goodIn_app (goodIn_of _ (by decide +kernel)) ggX4_mixCellar_X4_askNow
theorem dX4_mixCellar_0 : decode cX4_mixCellar 0 = .ok (.iconst 1, 1) := by decide +kernel
theorem dX4_mixCellar_1 : decode cX4_mixCellar 1 = .ok (.aload_n 0, 1) := by decide +kernel
theorem dX4_mixCellar_2 : decode cX4_mixCellar 2 = .ok (.getfield 88, 3) := by decide +kernel
theorem dX4_mixCellar_5 : decode cX4_mixCellar 5 = .ok (.ishl, 1) := by decide +kernel
theorem dX4_mixCellar_6 : decode cX4_mixCellar 6 = .ok (.iconst 1, 1) := by decide +kernel
theorem dX4_mixCellar_7 : decode cX4_mixCellar 7 = .ok (.isub, 1) := by decide +kernel
theorem dX4_mixCellar_8 : decode cX4_mixCellar 8 = .ok (.istore_n 1, 1) := by decide +kernel
theorem dX4_mixCellar_9 : decode cX4_mixCellar 9 = .ok (.aload_n 0, 1) := by decide +kernel
theorem dX4_mixCellar_10 : decode cX4_mixCellar 10 = .ok (.aload_n 0, 1) := by decide +kernel
theorem dX4_mixCellar_11 : decode cX4_mixCellar 11 = .ok (.iload_n 1, 1) := by decide +kernel
theorem dX4_mixCellar_12 : decode cX4_mixCellar 12 = .ok (.invokevirtual 162, 3) := by decide +kernel
theorem dX4_mixCellar_15 : decode cX4_mixCellar 15 = .ok (.i2l, 1) := by decide +kernel
theorem dX4_mixCellar_16 : decode cX4_mixCellar 16 = .ok (.invokevirtual 245, 3) := by decide +kernel
theorem dX4_mixCellar_19 : decode cX4_mixCellar 19 = .ok (.aload_n 0, 1) := by decide +kernel
theorem dX4_mixCellar_20 : decode cX4_mixCellar 20 = .ok (.aload_n 0, 1) := by decide +kernel
theorem dX4_mixCellar_21 : decode cX4_mixCellar 21 = .ok (.iload_n 1, 1) := by decide +kernel
theorem dX4_mixCellar_22 : decode cX4_mixCellar 22 = .ok (.iconst 5, 1) := by decide +kernel
theorem dX4_mixCellar_23 : decode cX4_mixCellar 23 = .ok (.iconst 0, 1) := by decide +kernel
theorem dX4_mixCellar_24 : decode cX4_mixCellar 24 = .ok (.invokevirtual 168, 3) := by decide +kernel
theorem dX4_mixCellar_27 : decode cX4_mixCellar 27 = .ok (.i2l, 1) := by decide +kernel
theorem dX4_mixCellar_28 : decode cX4_mixCellar 28 = .ok (.invokevirtual 245, 3) := by decide +kernel
theorem dX4_mixCellar_31 : decode cX4_mixCellar 31 = .ok (.aload_n 0, 1) := by decide +kernel
theorem dX4_mixCellar_32 : decode cX4_mixCellar 32 = .ok (.aload_n 0, 1) := by decide +kernel
theorem dX4_mixCellar_33 : decode cX4_mixCellar 33 = .ok (.iload_n 1, 1) := by decide +kernel
theorem dX4_mixCellar_34 : decode cX4_mixCellar 34 = .ok (.iconst 5, 1) := by decide +kernel
theorem dX4_mixCellar_35 : decode cX4_mixCellar 35 = .ok (.iconst 1, 1) := by decide +kernel
theorem dX4_mixCellar_36 : decode cX4_mixCellar 36 = .ok (.invokevirtual 168, 3) := by decide +kernel
theorem dX4_mixCellar_39 : decode cX4_mixCellar 39 = .ok (.i2l, 1) := by decide +kernel
theorem dX4_mixCellar_40 : decode cX4_mixCellar 40 = .ok (.invokevirtual 245, 3) := by decide +kernel
theorem dX4_mixCellar_43 : decode cX4_mixCellar 43 = .ok (.iconst 0, 1) := by decide +kernel
theorem dX4_mixCellar_44 : decode cX4_mixCellar 44 = .ok (.istore_n 2, 1) := by decide +kernel
theorem dX4_mixCellar_45 : decode cX4_mixCellar 45 = .ok (.iload_n 2, 1) := by decide +kernel
theorem dX4_mixCellar_46 : decode cX4_mixCellar 46 = .ok (.iconst 5, 1) := by decide +kernel
theorem dX4_mixCellar_47 : decode cX4_mixCellar 47 = .ok (.if_icmp .ge 29, 3) := by decide +kernel
theorem dX4_mixCellar_50 : decode cX4_mixCellar 50 = .ok (.aload_n 0, 1) := by decide +kernel
theorem dX4_mixCellar_51 : decode cX4_mixCellar 51 = .ok (.aload_n 0, 1) := by decide +kernel
theorem dX4_mixCellar_52 : decode cX4_mixCellar 52 = .ok (.iload_n 2, 1) := by decide +kernel
theorem dX4_mixCellar_53 : decode cX4_mixCellar 53 = .ok (.invokevirtual 185, 3) := by decide +kernel
theorem dX4_mixCellar_56 : decode cX4_mixCellar 56 = .ok (.i2l, 1) := by decide +kernel
theorem dX4_mixCellar_57 : decode cX4_mixCellar 57 = .ok (.invokevirtual 245, 3) := by decide +kernel
theorem dX4_mixCellar_60 : decode cX4_mixCellar 60 = .ok (.aload_n 0, 1) := by decide +kernel
theorem dX4_mixCellar_61 : decode cX4_mixCellar 61 = .ok (.aload_n 0, 1) := by decide +kernel
theorem dX4_mixCellar_62 : decode cX4_mixCellar 62 = .ok (.iload_n 2, 1) := by decide +kernel
theorem dX4_mixCellar_63 : decode cX4_mixCellar 63 = .ok (.invokevirtual 189, 3) := by decide +kernel
theorem dX4_mixCellar_66 : decode cX4_mixCellar 66 = .ok (.i2l, 1) := by decide +kernel
theorem dX4_mixCellar_67 : decode cX4_mixCellar 67 = .ok (.invokevirtual 245, 3) := by decide +kernel
theorem dX4_mixCellar_70 : decode cX4_mixCellar 70 = .ok (.iinc 2 1, 3) := by decide +kernel
theorem dX4_mixCellar_73 : decode cX4_mixCellar 73 = .ok (.goto (-28), 3) := by decide +kernel
theorem dX4_mixCellar_76 : decode cX4_mixCellar 76 = .ok (.return_, 1) := by decide +kernel
set_option maxRecDepth 20000 in
theorem ggX4_digest_X4_caskNow : GoodIn wsX4_digest wsX4_caskNow := goodIn_r _ [11, 12, 13, 14, 15, 10, 16, 17, 18, 19, 20, 21, 22, 23, 24, 25, 26, 27, 28, 29, 30, 31, 32, 33, 34, 35, 36, 37, 38, 39, 40, 41, 42, 4, 43, 44, 45, 46, 47, 48, 49, 50, 51, 52, 53, 54, 55, 128, 129, 130, 131, 132, 133, 134, 135, 136, 137, 138, 139, 140, 141, 142, 143, 144, 145, 146, 147, 148, 149, 150, 151, 152, 153, 154, 155, 156, 157] (by decide +kernel) (by decide +kernel)
set_option maxRecDepth 20000 in
theorem gX4_digest_X4_caskNow : GoodIn wsX4_digest (wsV RX4 130 RX4 yX4_caskNow wsX4_caskNow) := goodIn_app (goodIn_of _ (by decide +kernel)) ggX4_digest_X4_caskNow
set_option maxRecDepth 20000 in
theorem ggX4_digest_X4_mix : GoodIn wsX4_digest wsX4_mix := goodIn_r _ [59, 60, 2, 128, 129, 130, 131, 132, 133, 134, 135, 136, 137, 138, 139, 140, 141, 142, 143, 144, 145, 146, 147, 148, 149, 150, 151, 152, 153, 154, 155, 156, 157] (by decide +kernel) (by decide +kernel)
set_option maxRecDepth 20000 in
theorem gX4_digest_X4_mix : GoodIn wsX4_digest (wsV RX4 245 RX4 yX4_mix wsX4_mix) := goodIn_app (goodIn_of _ (by decide +kernel)) ggX4_digest_X4_mix
set_option maxRecDepth 20000 in
theorem ggX4_digest_X4_personNow : GoodIn wsX4_digest wsX4_personNow := goodIn_r _ [64, 43, 44, 65, 66, 67, 68, 10, 69, 3, 13, 14, 15, 16, 17, 18, 19, 20, 12, 21, 22, 23, 24, 25, 45, 46, 47, 48, 30, 31, 32, 33, 34, 26, 27, 28, 29, 35, 36, 37, 38, 49, 50, 51, 52, 53, 54, 55, 128, 129, 130, 131, 132, 133, 134, 135, 136, 137, 138, 139, 140, 141, 142, 143, 144, 145, 146, 147, 148, 149, 150, 151, 152, 153, 154, 155, 156, 157] (by decide +kernel) (by decide +kernel)
set_option maxRecDepth 20000 in
theorem gX4_digest_X4_personNow : GoodIn wsX4_digest (wsV RX4 140 RX4 yX4_personNow wsX4_personNow) := goodIn_app (goodIn_of _ (by decide +kernel)) ggX4_digest_X4_personNow
set_option maxRecDepth 20000 in
theorem ggX4_digest_X4_mixCellar : GoodIn wsX4_digest wsX4_mixCellar := goodIn_r _ [73, 4, 74, 75, 76, 10, 77, 78, 66, 67, 68, 69, 3, 43, 44, 13, 14, 15, 16, 17, 18, 19, 20, 12, 21, 22, 23, 24, 25, 45, 46, 47, 48, 30, 31, 32, 33, 34, 26, 27, 28, 29, 35, 36, 37, 38, 49, 50, 51, 52, 53, 54, 55, 79, 80, 81, 82, 83, 84, 85, 86, 87, 88, 89, 90, 56, 57, 58, 59, 60, 2, 91, 92, 93, 94, 95, 96, 97, 98, 39, 40, 41, 42, 99, 100, 101, 102, 103, 104, 105, 106, 107, 108, 109, 110, 111, 112, 113, 114, 128, 129, 130, 131, 132, 133, 134, 135, 136, 137, 138, 139, 140, 141, 142, 143, 144, 145, 146, 147, 148, 149, 150, 151, 152, 153, 154, 155, 156, 157] (by decide +kernel) (by decide +kernel)
set_option maxRecDepth 20000 in
theorem gX4_digest_X4_mixCellar : GoodIn wsX4_digest (wsV RX4 251 RX4 yX4_mixCellar wsX4_mixCellar) := goodIn_app (goodIn_of _ (by decide +kernel)) ggX4_digest_X4_mixCellar
set_option maxRecDepth 20000 in
theorem ggX4_digest_X4_howMany : GoodIn wsX4_digest wsX4_howMany := goodIn_r _ [118, 34, 3, 4, 107, 5, 119, 120, 121, 122, 10, 123, 84, 85, 86, 87, 13, 14, 15, 16, 17, 18, 19, 20, 12, 21, 22, 23, 24, 25, 26, 27, 28, 29, 124, 125, 126, 127, 65, 128, 129, 130, 131, 132, 133, 134, 135, 136, 137, 138, 139, 140, 141, 142, 143, 144, 145, 146, 147, 148, 149, 150, 151, 152, 153, 154, 155, 156, 157] (by decide +kernel) (by decide +kernel)
set_option maxRecDepth 20000 in
theorem gX4_digest_X4_howMany : GoodIn wsX4_digest (wsV RX4 237 RX4 yX4_howMany wsX4_howMany) := goodIn_app (goodIn_of _ (by decide +kernel)) ggX4_digest_X4_howMany
theorem dX4_digest_0 : decode cX4_digest 0 = .ok (.aload_n 0, 1) := by decide +kernel
theorem dX4_digest_1 : decode cX4_digest 1 = .ok (.ldc2_w 249, 3) := by decide +kernel
theorem dX4_digest_4 : decode cX4_digest 4 = .ok (.putfield 242, 3) := by decide +kernel
theorem dX4_digest_7 : decode cX4_digest 7 = .ok (.iconst 0, 1) := by decide +kernel
theorem dX4_digest_8 : decode cX4_digest 8 = .ok (.istore_n 1, 1) := by decide +kernel
theorem dX4_digest_9 : decode cX4_digest 9 = .ok (.iload_n 1, 1) := by decide +kernel
theorem dX4_digest_10 : decode cX4_digest 10 = .ok (.aload_n 0, 1) := by decide +kernel
theorem dX4_digest_11 : decode cX4_digest 11 = .ok (.getfield 82, 3) := by decide +kernel
theorem dX4_digest_14 : decode cX4_digest 14 = .ok (.if_icmp .ge 45, 3) := by decide +kernel
theorem dX4_digest_17 : decode cX4_digest 17 = .ok (.iconst 0, 1) := by decide +kernel
theorem dX4_digest_18 : decode cX4_digest 18 = .ok (.istore_n 2, 1) := by decide +kernel
theorem dX4_digest_19 : decode cX4_digest 19 = .ok (.iload_n 2, 1) := by decide +kernel
theorem dX4_digest_20 : decode cX4_digest 20 = .ok (.bipush 20, 2) := by decide +kernel
theorem dX4_digest_22 : decode cX4_digest 22 = .ok (.if_icmp .ge 31, 3) := by decide +kernel
theorem dX4_digest_25 : decode cX4_digest 25 = .ok (.iload_n 2, 1) := by decide +kernel
theorem dX4_digest_26 : decode cX4_digest 26 = .ok (.iconst 4, 1) := by decide +kernel
theorem dX4_digest_27 : decode cX4_digest 27 = .ok (.if_icmp .lt 9, 3) := by decide +kernel
theorem dX4_digest_30 : decode cX4_digest 30 = .ok (.iload_n 2, 1) := by decide +kernel
theorem dX4_digest_31 : decode cX4_digest 31 = .ok (.bipush 9, 2) := by decide +kernel
theorem dX4_digest_33 : decode cX4_digest 33 = .ok (.if_icmp .le 14, 3) := by decide +kernel
theorem dX4_digest_36 : decode cX4_digest 36 = .ok (.aload_n 0, 1) := by decide +kernel
theorem dX4_digest_37 : decode cX4_digest 37 = .ok (.aload_n 0, 1) := by decide +kernel
theorem dX4_digest_38 : decode cX4_digest 38 = .ok (.iload_n 1, 1) := by decide +kernel
theorem dX4_digest_39 : decode cX4_digest 39 = .ok (.iload_n 2, 1) := by decide +kernel
theorem dX4_digest_40 : decode cX4_digest 40 = .ok (.invokevirtual 130, 3) := by decide +kernel
theorem dX4_digest_43 : decode cX4_digest 43 = .ok (.i2l, 1) := by decide +kernel
theorem dX4_digest_44 : decode cX4_digest 44 = .ok (.invokevirtual 245, 3) := by decide +kernel
theorem dX4_digest_47 : decode cX4_digest 47 = .ok (.iinc 2 1, 3) := by decide +kernel
theorem dX4_digest_50 : decode cX4_digest 50 = .ok (.goto (-31), 3) := by decide +kernel
theorem dX4_digest_53 : decode cX4_digest 53 = .ok (.iinc 1 1, 3) := by decide +kernel
theorem dX4_digest_56 : decode cX4_digest 56 = .ok (.goto (-47), 3) := by decide +kernel
theorem dX4_digest_59 : decode cX4_digest 59 = .ok (.iconst 0, 1) := by decide +kernel
theorem dX4_digest_60 : decode cX4_digest 60 = .ok (.istore_n 1, 1) := by decide +kernel
theorem dX4_digest_61 : decode cX4_digest 61 = .ok (.iload_n 1, 1) := by decide +kernel
theorem dX4_digest_62 : decode cX4_digest 62 = .ok (.aload_n 0, 1) := by decide +kernel
theorem dX4_digest_63 : decode cX4_digest 63 = .ok (.getfield 88, 3) := by decide +kernel
theorem dX4_digest_66 : decode cX4_digest 66 = .ok (.if_icmp .ge 33, 3) := by decide +kernel
theorem dX4_digest_69 : decode cX4_digest 69 = .ok (.iconst 0, 1) := by decide +kernel
theorem dX4_digest_70 : decode cX4_digest 70 = .ok (.istore_n 2, 1) := by decide +kernel
theorem dX4_digest_71 : decode cX4_digest 71 = .ok (.iload_n 2, 1) := by decide +kernel
theorem dX4_digest_72 : decode cX4_digest 72 = .ok (.iconst 4, 1) := by decide +kernel
theorem dX4_digest_73 : decode cX4_digest 73 = .ok (.if_icmp .ge 20, 3) := by decide +kernel
theorem dX4_digest_76 : decode cX4_digest 76 = .ok (.aload_n 0, 1) := by decide +kernel
theorem dX4_digest_77 : decode cX4_digest 77 = .ok (.aload_n 0, 1) := by decide +kernel
theorem dX4_digest_78 : decode cX4_digest 78 = .ok (.iload_n 1, 1) := by decide +kernel
theorem dX4_digest_79 : decode cX4_digest 79 = .ok (.iload_n 2, 1) := by decide +kernel
theorem dX4_digest_80 : decode cX4_digest 80 = .ok (.invokevirtual 140, 3) := by decide +kernel
theorem dX4_digest_83 : decode cX4_digest 83 = .ok (.i2l, 1) := by decide +kernel
theorem dX4_digest_84 : decode cX4_digest 84 = .ok (.invokevirtual 245, 3) := by decide +kernel
theorem dX4_digest_87 : decode cX4_digest 87 = .ok (.iinc 2 1, 3) := by decide +kernel
theorem dX4_digest_90 : decode cX4_digest 90 = .ok (.goto (-19), 3) := by decide +kernel
theorem dX4_digest_93 : decode cX4_digest 93 = .ok (.iinc 1 1, 3) := by decide +kernel
theorem dX4_digest_96 : decode cX4_digest 96 = .ok (.goto (-35), 3) := by decide +kernel
theorem dX4_digest_99 : decode cX4_digest 99 = .ok (.aload_n 0, 1) := by decide +kernel
theorem dX4_digest_100 : decode cX4_digest 100 = .ok (.getfield 82, 3) := by decide +kernel
theorem dX4_digest_103 : decode cX4_digest 103 = .ok (.ifCond .le 7, 3) := by decide +kernel
theorem dX4_digest_106 : decode cX4_digest 106 = .ok (.aload_n 0, 1) := by decide +kernel
theorem dX4_digest_107 : decode cX4_digest 107 = .ok (.invokevirtual 251, 3) := by decide +kernel
theorem dX4_digest_110 : decode cX4_digest 110 = .ok (.iconst 0, 1) := by decide +kernel
theorem dX4_digest_111 : decode cX4_digest 111 = .ok (.istore_n 1, 1) := by decide +kernel
theorem dX4_digest_112 : decode cX4_digest 112 = .ok (.iload_n 1, 1) := by decide +kernel
theorem dX4_digest_113 : decode cX4_digest 113 = .ok (.aload_n 0, 1) := by decide +kernel
theorem dX4_digest_114 : decode cX4_digest 114 = .ok (.getfield 60, 3) := by decide +kernel
theorem dX4_digest_117 : decode cX4_digest 117 = .ok (.if_icmp .ge 20, 3) := by decide +kernel
theorem dX4_digest_120 : decode cX4_digest 120 = .ok (.aload_n 0, 1) := by decide +kernel
theorem dX4_digest_121 : decode cX4_digest 121 = .ok (.aload_n 0, 1) := by decide +kernel
theorem dX4_digest_122 : decode cX4_digest 122 = .ok (.getfield 31, 3) := by decide +kernel
theorem dX4_digest_125 : decode cX4_digest 125 = .ok (.iload_n 1, 1) := by decide +kernel
theorem dX4_digest_126 : decode cX4_digest 126 = .ok (.baload, 1) := by decide +kernel
theorem dX4_digest_127 : decode cX4_digest 127 = .ok (.i2l, 1) := by decide +kernel
theorem dX4_digest_128 : decode cX4_digest 128 = .ok (.invokevirtual 245, 3) := by decide +kernel
theorem dX4_digest_131 : decode cX4_digest 131 = .ok (.iinc 1 1, 3) := by decide +kernel
theorem dX4_digest_134 : decode cX4_digest 134 = .ok (.goto (-22), 3) := by decide +kernel
theorem dX4_digest_137 : decode cX4_digest 137 = .ok (.iconst 0, 1) := by decide +kernel
theorem dX4_digest_138 : decode cX4_digest 138 = .ok (.istore_n 1, 1) := by decide +kernel
theorem dX4_digest_139 : decode cX4_digest 139 = .ok (.iload_n 1, 1) := by decide +kernel
theorem dX4_digest_140 : decode cX4_digest 140 = .ok (.bipush 8, 2) := by decide +kernel
theorem dX4_digest_142 : decode cX4_digest 142 = .ok (.if_icmp .ge 19, 3) := by decide +kernel
theorem dX4_digest_145 : decode cX4_digest 145 = .ok (.aload_n 0, 1) := by decide +kernel
theorem dX4_digest_146 : decode cX4_digest 146 = .ok (.aload_n 0, 1) := by decide +kernel
theorem dX4_digest_147 : decode cX4_digest 147 = .ok (.iload_n 1, 1) := by decide +kernel
theorem dX4_digest_148 : decode cX4_digest 148 = .ok (.invokevirtual 237, 3) := by decide +kernel
theorem dX4_digest_151 : decode cX4_digest 151 = .ok (.i2l, 1) := by decide +kernel
theorem dX4_digest_152 : decode cX4_digest 152 = .ok (.invokevirtual 245, 3) := by decide +kernel
theorem dX4_digest_155 : decode cX4_digest 155 = .ok (.iinc 1 1, 3) := by decide +kernel
theorem dX4_digest_158 : decode cX4_digest 158 = .ok (.goto (-19), 3) := by decide +kernel
theorem dX4_digest_161 : decode cX4_digest 161 = .ok (.aload_n 0, 1) := by decide +kernel
theorem dX4_digest_162 : decode cX4_digest 162 = .ok (.getfield 242, 3) := by decide +kernel
theorem dX4_digest_165 : decode cX4_digest 165 = .ok (.lreturn, 1) := by decide +kernel
theorem dJ6_bitCount_0f7a4_0 : decode cJ6_bitCount_0f7a4 0 = .ok (.iload_n 0, 1) := by decide +kernel
theorem dJ6_bitCount_0f7a4_1 : decode cJ6_bitCount_0f7a4 1 = .ok (.iload_n 0, 1) := by decide +kernel
theorem dJ6_bitCount_0f7a4_2 : decode cJ6_bitCount_0f7a4 2 = .ok (.iconst 1, 1) := by decide +kernel
theorem dJ6_bitCount_0f7a4_3 : decode cJ6_bitCount_0f7a4 3 = .ok (.iushr, 1) := by decide +kernel
theorem dJ6_bitCount_0f7a4_4 : decode cJ6_bitCount_0f7a4 4 = .ok (.ldc_w 265, 3) := by decide +kernel
theorem dJ6_bitCount_0f7a4_7 : decode cJ6_bitCount_0f7a4 7 = .ok (.iand, 1) := by decide +kernel
theorem dJ6_bitCount_0f7a4_8 : decode cJ6_bitCount_0f7a4 8 = .ok (.isub, 1) := by decide +kernel
theorem dJ6_bitCount_0f7a4_9 : decode cJ6_bitCount_0f7a4 9 = .ok (.istore_n 0, 1) := by decide +kernel
theorem dJ6_bitCount_0f7a4_10 : decode cJ6_bitCount_0f7a4 10 = .ok (.iload_n 0, 1) := by decide +kernel
theorem dJ6_bitCount_0f7a4_11 : decode cJ6_bitCount_0f7a4 11 = .ok (.ldc_w 266, 3) := by decide +kernel
theorem dJ6_bitCount_0f7a4_14 : decode cJ6_bitCount_0f7a4 14 = .ok (.iand, 1) := by decide +kernel
theorem dJ6_bitCount_0f7a4_15 : decode cJ6_bitCount_0f7a4 15 = .ok (.iload_n 0, 1) := by decide +kernel
theorem dJ6_bitCount_0f7a4_16 : decode cJ6_bitCount_0f7a4 16 = .ok (.iconst 2, 1) := by decide +kernel
theorem dJ6_bitCount_0f7a4_17 : decode cJ6_bitCount_0f7a4 17 = .ok (.iushr, 1) := by decide +kernel
theorem dJ6_bitCount_0f7a4_18 : decode cJ6_bitCount_0f7a4 18 = .ok (.ldc_w 266, 3) := by decide +kernel
theorem dJ6_bitCount_0f7a4_21 : decode cJ6_bitCount_0f7a4 21 = .ok (.iand, 1) := by decide +kernel
theorem dJ6_bitCount_0f7a4_22 : decode cJ6_bitCount_0f7a4 22 = .ok (.iadd, 1) := by decide +kernel
theorem dJ6_bitCount_0f7a4_23 : decode cJ6_bitCount_0f7a4 23 = .ok (.istore_n 0, 1) := by decide +kernel
theorem dJ6_bitCount_0f7a4_24 : decode cJ6_bitCount_0f7a4 24 = .ok (.iload_n 0, 1) := by decide +kernel
theorem dJ6_bitCount_0f7a4_25 : decode cJ6_bitCount_0f7a4 25 = .ok (.iload_n 0, 1) := by decide +kernel
theorem dJ6_bitCount_0f7a4_26 : decode cJ6_bitCount_0f7a4 26 = .ok (.iconst 4, 1) := by decide +kernel
theorem dJ6_bitCount_0f7a4_27 : decode cJ6_bitCount_0f7a4 27 = .ok (.iushr, 1) := by decide +kernel
theorem dJ6_bitCount_0f7a4_28 : decode cJ6_bitCount_0f7a4 28 = .ok (.iadd, 1) := by decide +kernel
theorem dJ6_bitCount_0f7a4_29 : decode cJ6_bitCount_0f7a4 29 = .ok (.ldc_w 267, 3) := by decide +kernel
theorem dJ6_bitCount_0f7a4_32 : decode cJ6_bitCount_0f7a4 32 = .ok (.iand, 1) := by decide +kernel
theorem dJ6_bitCount_0f7a4_33 : decode cJ6_bitCount_0f7a4 33 = .ok (.istore_n 0, 1) := by decide +kernel
theorem dJ6_bitCount_0f7a4_34 : decode cJ6_bitCount_0f7a4 34 = .ok (.iload_n 0, 1) := by decide +kernel
theorem dJ6_bitCount_0f7a4_35 : decode cJ6_bitCount_0f7a4 35 = .ok (.iload_n 0, 1) := by decide +kernel
theorem dJ6_bitCount_0f7a4_36 : decode cJ6_bitCount_0f7a4 36 = .ok (.bipush 8, 2) := by decide +kernel
theorem dJ6_bitCount_0f7a4_38 : decode cJ6_bitCount_0f7a4 38 = .ok (.iushr, 1) := by decide +kernel
theorem dJ6_bitCount_0f7a4_39 : decode cJ6_bitCount_0f7a4 39 = .ok (.iadd, 1) := by decide +kernel
theorem dJ6_bitCount_0f7a4_40 : decode cJ6_bitCount_0f7a4 40 = .ok (.istore_n 0, 1) := by decide +kernel
theorem dJ6_bitCount_0f7a4_41 : decode cJ6_bitCount_0f7a4 41 = .ok (.iload_n 0, 1) := by decide +kernel
theorem dJ6_bitCount_0f7a4_42 : decode cJ6_bitCount_0f7a4 42 = .ok (.iload_n 0, 1) := by decide +kernel
theorem dJ6_bitCount_0f7a4_43 : decode cJ6_bitCount_0f7a4 43 = .ok (.bipush 16, 2) := by decide +kernel
theorem dJ6_bitCount_0f7a4_45 : decode cJ6_bitCount_0f7a4 45 = .ok (.iushr, 1) := by decide +kernel
theorem dJ6_bitCount_0f7a4_46 : decode cJ6_bitCount_0f7a4 46 = .ok (.iadd, 1) := by decide +kernel
theorem dJ6_bitCount_0f7a4_47 : decode cJ6_bitCount_0f7a4 47 = .ok (.istore_n 0, 1) := by decide +kernel
theorem dJ6_bitCount_0f7a4_48 : decode cJ6_bitCount_0f7a4 48 = .ok (.iload_n 0, 1) := by decide +kernel
theorem dJ6_bitCount_0f7a4_49 : decode cJ6_bitCount_0f7a4 49 = .ok (.bipush 63, 2) := by decide +kernel
theorem dJ6_bitCount_0f7a4_51 : decode cJ6_bitCount_0f7a4 51 = .ok (.iand, 1) := by decide +kernel
theorem dJ6_bitCount_0f7a4_52 : decode cJ6_bitCount_0f7a4 52 = .ok (.ireturn, 1) := by decide +kernel
theorem dJ9_max_7cf53_0 : decode cJ9_max_7cf53 0 = .ok (.iload_n 0, 1) := by decide +kernel
theorem dJ9_max_7cf53_1 : decode cJ9_max_7cf53 1 = .ok (.iload_n 1, 1) := by decide +kernel
theorem dJ9_max_7cf53_2 : decode cJ9_max_7cf53 2 = .ok (.if_icmp .lt 7, 3) := by decide +kernel
theorem dJ9_max_7cf53_5 : decode cJ9_max_7cf53 5 = .ok (.iload_n 0, 1) := by decide +kernel
theorem dJ9_max_7cf53_6 : decode cJ9_max_7cf53 6 = .ok (.goto 4, 3) := by decide +kernel
theorem dJ9_max_7cf53_9 : decode cJ9_max_7cf53 9 = .ok (.iload_n 1, 1) := by decide +kernel
theorem dJ9_max_7cf53_10 : decode cJ9_max_7cf53 10 = .ok (.ireturn, 1) := by decide +kernel
theorem dJ9_min_7cf53_0 : decode cJ9_min_7cf53 0 = .ok (.iload_n 0, 1) := by decide +kernel
theorem dJ9_min_7cf53_1 : decode cJ9_min_7cf53 1 = .ok (.iload_n 1, 1) := by decide +kernel
theorem dJ9_min_7cf53_2 : decode cJ9_min_7cf53 2 = .ok (.if_icmp .gt 7, 3) := by decide +kernel
theorem dJ9_min_7cf53_5 : decode cJ9_min_7cf53 5 = .ok (.iload_n 0, 1) := by decide +kernel
theorem dJ9_min_7cf53_6 : decode cJ9_min_7cf53 6 = .ok (.goto 4, 3) := by decide +kernel
theorem dJ9_min_7cf53_9 : decode cJ9_min_7cf53 9 = .ok (.iload_n 1, 1) := by decide +kernel
theorem dJ9_min_7cf53_10 : decode cJ9_min_7cf53 10 = .ok (.ireturn, 1) := by decide +kernel
