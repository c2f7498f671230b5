set_option maxRecDepth 20000 in
theorem gX3_blend_X3_casksIn : GoodIn wsX3_blend (va_wsS RX3 154 yX3_casksIn wsX3_casksIn) := goodIn_app (goodIn_of _ (by decide +kernel)) ggX3_blend_X3_casksIn
theorem dX3_blend_0 : decode cX3_blend 0 = .ok (.aload_n 0, 1) := by decide +kernel
theorem dX3_blend_1 : decode cX3_blend 1 = .ok (.getfield 19, 3) := by decide +kernel
theorem dX3_blend_4 : decode cX3_blend 4 = .ok (.iload_n 1, 1) := by decide +kernel
theorem dX3_blend_5 : decode cX3_blend 5 = .ok (.invokevirtual 142, 3) := by decide +kernel
theorem dX3_blend_8 : decode cX3_blend 8 = .ok (.ifCond .eq 20, 3) := by decide +kernel
theorem dX3_blend_11 : decode cX3_blend 11 = .ok (.iload_n 2, 1) := by decide +kernel
theorem dX3_blend_12 : decode cX3_blend 12 = .ok (.ifCond .lt 16, 3) := by decide +kernel
theorem dX3_blend_15 : decode cX3_blend 15 = .ok (.iload_n 2, 1) := by decide +kernel
theorem dX3_blend_16 : decode cX3_blend 16 = .ok (.bipush 99, 2) := by decide +kernel
theorem dX3_blend_18 : decode cX3_blend 18 = .ok (.if_icmp .gt 10, 3) := by decide +kernel
theorem dX3_blend_21 : decode cX3_blend 21 = .ok (.iload_n 3, 1) := by decide +kernel
theorem dX3_blend_22 : decode cX3_blend 22 = .ok (.invokestatic 148, 3) := by decide +kernel
theorem dX3_blend_25 : decode cX3_blend 25 = .ok (.ifCond .ne 6, 3) := by decide +kernel
theorem dX3_blend_28 : decode cX3_blend 28 = .ok (.bipush (-102), 2) := by decide +kernel
theorem dX3_blend_30 : decode cX3_blend 30 = .ok (.ireturn, 1) := by decide +kernel
theorem dX3_blend_31 : decode cX3_blend 31 = .ok (.aload_n 0, 1) := by decide +kernel
theorem dX3_blend_32 : decode cX3_blend 32 = .ok (.getfield 19, 3) := by decide +kernel
theorem dX3_blend_35 : decode cX3_blend 35 = .ok (.invokevirtual 99, 3) := by decide +kernel
theorem dX3_blend_38 : decode cX3_blend 38 = .ok (.ifCond .ne 6, 3) := by decide +kernel
theorem dX3_blend_41 : decode cX3_blend 41 = .ok (.bipush (-103), 2) := by decide +kernel
theorem dX3_blend_43 : decode cX3_blend 43 = .ok (.ireturn, 1) := by decide +kernel
theorem dX3_blend_44 : decode cX3_blend 44 = .ok (.aload_n 0, 1) := by decide +kernel
theorem dX3_blend_45 : decode cX3_blend 45 = .ok (.iload_n 1, 1) := by decide +kernel
theorem dX3_blend_46 : decode cX3_blend 46 = .ok (.iload_n 2, 1) := by decide +kernel
theorem dX3_blend_47 : decode cX3_blend 47 = .ok (.invokevirtual 151, 3) := by decide +kernel
theorem dX3_blend_50 : decode cX3_blend 50 = .ok (.istore 4, 2) := by decide +kernel
theorem dX3_blend_52 : decode cX3_blend 52 = .ok (.iload_n 3, 1) := by decide +kernel
theorem dX3_blend_53 : decode cX3_blend 53 = .ok (.ifCond .ne 11, 3) := by decide +kernel
theorem dX3_blend_56 : decode cX3_blend 56 = .ok (.iload 4, 2) := by decide +kernel
theorem dX3_blend_58 : decode cX3_blend 58 = .ok (.invokestatic 154, 3) := by decide +kernel
theorem dX3_blend_61 : decode cX3_blend 61 = .ok (.goto 5, 3) := by decide +kernel
theorem dX3_blend_64 : decode cX3_blend 64 = .ok (.iload 4, 2) := by decide +kernel
theorem dX3_blend_66 : decode cX3_blend 66 = .ok (.ireturn, 1) := by decide +kernel
set_option maxRecDepth 20000 in
theorem ggX3_top_X1_hasCask : GoodIn wsX3_top wsX1_hasCask := goodIn_r _ [8, 9, 114, 115, 116, 117, 118, 119, 120, 121, 122, 123, 124] (by decide +kernel) (by decide +kernel)
set_option maxRecDepth 20000 in
theorem gX3_top_X1_hasCask : GoodIn wsX3_top (wsV RX3 68 RX1 yX1_hasCask wsX1_hasCask) := goodIn_app (goodIn_of _ (by decide +kernel)) ggX3_top_X1_hasCask
set_option maxRecDepth 20000 in
theorem ggX3_top_X1_arePeople : GoodIn wsX3_top wsX1_arePeople := goodIn_r _ [13, 14, 15, 16, 7, 17, 18, 114, 115, 116, 117, 118, 119, 120, 121, 122, 123, 124] (by decide +kernel) (by decide +kernel)
set_option maxRecDepth 20000 in
theorem gX3_top_X1_arePeople : GoodIn wsX3_top (wsV RX3 142 RX1 yX1_arePeople wsX1_arePeople) := goodIn_app (goodIn_of _ (by decide +kernel)) ggX3_top_X1_arePeople
set_option maxRecDepth 20000 in
theorem ggX3_top_X3_isZeroOrOne : GoodIn wsX3_top wsX3_isZeroOrOne := goodIn_r _ [22] (by decide +kernel) (by decide +kernel)
set_option maxRecDepth 20000 in
theorem gX3_top_X3_isZeroOrOne : GoodIn wsX3_top (va_wsS RX3 148 yX3_isZeroOrOne wsX3_isZeroOrOne) := goodIn_app (goodIn_of _ (by decide +kernel)) ggX3_top_X3_isZeroOrOne
set_option maxRecDepth 20000 in
theorem ggX3_top_X1_allMay : GoodIn wsX3_top wsX1_allMay := goodIn_r _ [26, 27, 28, 29, 7, 30, 31, 18, 32, 33, 34, 35, 36, 37, 38, 39, 40, 41, 42, 43, 44, 45, 46, 47, 48, 49, 50, 51, 52, 53, 54, 55, 56, 57, 58, 59, 60, 61, 62, 63, 64, 65, 66, 67, 68, 21, 69, 114, 115, 116, 117, 118, 119, 120, 121, 122, 123, 124, 125, 126] (by decide +kernel) (by decide +kernel)
set_option maxRecDepth 20000 in
theorem gX3_top_X1_allMay : GoodIn wsX3_top (wsV RX3 157 RX1 yX1_allMay wsX1_allMay) := goodIn_app (goodIn_of _ (by decide +kernel)) ggX3_top_X1_allMay
set_option maxRecDepth 20000 in
theorem ggX3_top_X3_litresToTop : GoodIn wsX3_top wsX3_litresToTop := goodIn_r _ [73, 74, 1, 2, 75, 76, 77, 78, 79, 80, 81, 82, 83, 37, 84, 85, 86, 87, 88, 44, 39, 89, 90, 91, 92, 93, 94, 95, 96, 97, 98, 99, 100, 101, 102, 103, 104, 40, 41, 42, 43, 105, 23, 24, 25, 7, 26, 27, 28, 29, 30, 31, 18, 32, 33, 34, 35, 36, 38, 45, 46, 47, 48, 49, 50, 51, 52, 53, 54, 55, 56, 57, 58, 59, 60, 61, 62, 63, 64, 65, 66, 67, 68, 21, 69, 106, 107, 108, 109, 110, 111, 112, 113, 114, 115, 116, 117, 118, 119, 120, 121, 122, 123, 124, 125, 126] (by decide +kernel) (by decide +kernel)
set_option maxRecDepth 20000 in
theorem gX3_top_X3_litresToTop : GoodIn wsX3_top (wsV RX3 164 RX3 yX3_litresToTop wsX3_litresToTop) := goodIn_app (goodIn_of _ (by decide +kernel)) ggX3_top_X3_litresToTop
theorem dX3_top_0 : decode cX3_top 0 = .ok (.aload_n 0, 1) := by decide +kernel
theorem dX3_top_1 : decode cX3_top 1 = .ok (.getfield 19, 3) := by decide +kernel
theorem dX3_top_4 : decode cX3_top 4 = .ok (.iload_n 2, 1) := by decide +kernel
theorem dX3_top_5 : decode cX3_top 5 = .ok (.invokevirtual 68, 3) := by decide +kernel
theorem dX3_top_8 : decode cX3_top 8 = .ok (.ifCond .ne 6, 3) := by decide +kernel
theorem dX3_top_11 : decode cX3_top 11 = .ok (.bipush (-101), 2) := by decide +kernel
theorem dX3_top_13 : decode cX3_top 13 = .ok (.ireturn, 1) := by decide +kernel
theorem dX3_top_14 : decode cX3_top 14 = .ok (.aload_n 0, 1) := by decide +kernel
theorem dX3_top_15 : decode cX3_top 15 = .ok (.getfield 19, 3) := by decide +kernel
theorem dX3_top_18 : decode cX3_top 18 = .ok (.iload_n 1, 1) := by decide +kernel
theorem dX3_top_19 : decode cX3_top 19 = .ok (.invokevirtual 142, 3) := by decide +kernel
theorem dX3_top_22 : decode cX3_top 22 = .ok (.ifCond .eq 10, 3) := by decide +kernel
theorem dX3_top_25 : decode cX3_top 25 = .ok (.iload_n 3, 1) := by decide +kernel
theorem dX3_top_26 : decode cX3_top 26 = .ok (.invokestatic 148, 3) := by decide +kernel
theorem dX3_top_29 : decode cX3_top 29 = .ok (.ifCond .ne 6, 3) := by decide +kernel
theorem dX3_top_32 : decode cX3_top 32 = .ok (.bipush (-102), 2) := by decide +kernel
theorem dX3_top_34 : decode cX3_top 34 = .ok (.ireturn, 1) := by decide +kernel
theorem dX3_top_35 : decode cX3_top 35 = .ok (.aload_n 0, 1) := by decide +kernel
theorem dX3_top_36 : decode cX3_top 36 = .ok (.getfield 19, 3) := by decide +kernel
theorem dX3_top_39 : decode cX3_top 39 = .ok (.iload_n 1, 1) := by decide +kernel
theorem dX3_top_40 : decode cX3_top 40 = .ok (.aload_n 0, 1) := by decide +kernel
theorem dX3_top_41 : decode cX3_top 41 = .ok (.getfield 19, 3) := by decide +kernel
theorem dX3_top_44 : decode cX3_top 44 = .ok (.getfield 72, 3) := by decide +kernel
theorem dX3_top_47 : decode cX3_top 47 = .ok (.iload_n 2, 1) := by decide +kernel
theorem dX3_top_48 : decode cX3_top 48 = .ok (.aaload, 1) := by decide +kernel
theorem dX3_top_49 : decode cX3_top 49 = .ok (.invokevirtual 157, 3) := by decide +kernel
theorem dX3_top_52 : decode cX3_top 52 = .ok (.ifCond .eq 13, 3) := by decide +kernel
theorem dX3_top_55 : decode cX3_top 55 = .ok (.iload_n 3, 1) := by decide +kernel
theorem dX3_top_56 : decode cX3_top 56 = .ok (.ifCond .ne 7, 3) := by decide +kernel
theorem dX3_top_59 : decode cX3_top 59 = .ok (.iconst 0, 1) := by decide +kernel
theorem dX3_top_60 : decode cX3_top 60 = .ok (.goto 4, 3) := by decide +kernel
theorem dX3_top_63 : decode cX3_top 63 = .ok (.iconst (-1), 1) := by decide +kernel
theorem dX3_top_64 : decode cX3_top 64 = .ok (.ireturn, 1) := by decide +kernel
theorem dX3_top_65 : decode cX3_top 65 = .ok (.iconst (-1), 1) := by decide +kernel
theorem dX3_top_66 : decode cX3_top 66 = .ok (.istore 4, 2) := by decide +kernel
theorem dX3_top_68 : decode cX3_top 68 = .ok (.iconst (-1), 1) := by decide +kernel
theorem dX3_top_69 : decode cX3_top 69 = .ok (.istore 5, 2) := by decide +kernel
theorem dX3_top_71 : decode cX3_top 71 = .ok (.iconst 0, 1) := by decide +kernel
theorem dX3_top_72 : decode cX3_top 72 = .ok (.istore 6, 2) := by decide +kernel
theorem dX3_top_74 : decode cX3_top 74 = .ok (.iload 6, 2) := by decide +kernel
theorem dX3_top_76 : decode cX3_top 76 = .ok (.aload_n 0, 1) := by decide +kernel
theorem dX3_top_77 : decode cX3_top 77 = .ok (.getfield 19, 3) := by decide +kernel
theorem dX3_top_80 : decode cX3_top 80 = .ok (.getfield 161, 3) := by decide +kernel
theorem dX3_top_83 : decode cX3_top 83 = .ok (.if_icmp .ge 56, 3) := by decide +kernel
theorem dX3_top_86 : decode cX3_top 86 = .ok (.iload 6, 2) := by decide +kernel
theorem dX3_top_88 : decode cX3_top 88 = .ok (.iload_n 2, 1) := by decide +kernel
theorem dX3_top_89 : decode cX3_top 89 = .ok (.if_icmp .ne 7, 3) := by decide +kernel
theorem dX3_top_92 : decode cX3_top 92 = .ok (.iconst (-1), 1) := by decide +kernel
theorem dX3_top_93 : decode cX3_top 93 = .ok (.goto 11, 3) := by decide +kernel
theorem dX3_top_96 : decode cX3_top 96 = .ok (.aload_n 0, 1) := by decide +kernel
theorem dX3_top_97 : decode cX3_top 97 = .ok (.iload_n 1, 1) := by decide +kernel
theorem dX3_top_98 : decode cX3_top 98 = .ok (.iload_n 2, 1) := by decide +kernel
theorem dX3_top_99 : decode cX3_top 99 = .ok (.iload 6, 2) := by decide +kernel
theorem dX3_top_101 : decode cX3_top 101 = .ok (.invokevirtual 164, 3) := by decide +kernel
theorem dX3_top_104 : decode cX3_top 104 = .ok (.istore 7, 2) := by decide +kernel
theorem dX3_top_106 : decode cX3_top 106 = .ok (.iload 7, 2) := by decide +kernel
theorem dX3_top_108 : decode cX3_top 108 = .ok (.iconst (-1), 1) := by decide +kernel
theorem dX3_top_109 : decode cX3_top 109 = .ok (.if_icmp .eq 24, 3) := by decide +kernel
theorem dX3_top_112 : decode cX3_top 112 = .ok (.iload 4, 2) := by decide +kernel
theorem dX3_top_114 : decode cX3_top 114 = .ok (.iconst (-1), 1) := by decide +kernel
theorem dX3_top_115 : decode cX3_top 115 = .ok (.if_icmp .eq 10, 3) := by decide +kernel
theorem dX3_top_118 : decode cX3_top 118 = .ok (.iload 7, 2) := by decide +kernel
theorem dX3_top_120 : decode cX3_top 120 = .ok (.iload 4, 2) := by decide +kernel
theorem dX3_top_122 : decode cX3_top 122 = .ok (.if_icmp .ge 11, 3) := by decide +kernel
theorem dX3_top_125 : decode cX3_top 125 = .ok (.iload 7, 2) := by decide +kernel
theorem dX3_top_127 : decode cX3_top 127 = .ok (.istore 4, 2) := by decide +kernel
theorem dX3_top_129 : decode cX3_top 129 = .ok (.iload 6, 2) := by decide +kernel
theorem dX3_top_131 : decode cX3_top 131 = .ok (.istore 5, 2) := by decide +kernel
theorem dX3_top_133 : decode cX3_top 133 = .ok (.iinc 6 1, 3) := by decide +kernel
theorem dX3_top_136 : decode cX3_top 136 = .ok (.goto (-62), 3) := by decide +kernel
theorem dX3_top_139 : decode cX3_top 139 = .ok (.iload_n 3, 1) := by decide +kernel
theorem dX3_top_140 : decode cX3_top 140 = .ok (.ifCond .ne 8, 3) := by decide +kernel
theorem dX3_top_143 : decode cX3_top 143 = .ok (.iload 4, 2) := by decide +kernel
theorem dX3_top_145 : decode cX3_top 145 = .ok (.goto 5, 3) := by decide +kernel
theorem dX3_top_148 : decode cX3_top 148 = .ok (.iload 5, 2) := by decide +kernel
theorem dX3_top_150 : decode cX3_top 150 = .ok (.ireturn, 1) := by decide +kernel
set_option maxRecDepth 20000 in
theorem ggX3_trial_X1_hasCask : GoodIn wsX3_trial wsX1_hasCask := goodIn_r _ [7, 8, 24, 25, 26, 27, 28, 29, 30, 31, 32, 33, 34] (by decide +kernel) (by decide +kernel)
set_option maxRecDepth 20000 in
theorem gX3_trial_X1_hasCask : GoodIn wsX3_trial (wsV RX3 68 RX1 yX1_hasCask wsX1_hasCask) := goodIn_app (goodIn_of _ (by decide +kernel)) ggX3_trial_X1_hasCask
set_option maxRecDepth 20000 in
theorem ggX3_trial_X1_noteTrial : GoodIn wsX3_trial wsX1_noteTrial := goodIn_r _ [12, 13, 14, 15, 24, 25, 26, 27, 28, 29, 30, 31, 32, 33, 34] (by decide +kernel) (by decide +kernel)
set_option maxRecDepth 20000 in
theorem gX3_trial_X1_noteTrial : GoodIn wsX3_trial (wsV RX3 171 RX1 yX1_noteTrial wsX1_noteTrial) := goodIn_app (goodIn_of _ (by decide +kernel)) ggX3_trial_X1_noteTrial
theorem dX3_trial_0 : decode cX3_trial 0 = .ok (.aload_n 0, 1) := by decide +kernel
theorem dX3_trial_1 : decode cX3_trial 1 = .ok (.getfield 19, 3) := by decide +kernel
theorem dX3_trial_4 : decode cX3_trial 4 = .ok (.iload_n 1, 1) := by decide +kernel
theorem dX3_trial_5 : decode cX3_trial 5 = .ok (.invokevirtual 68, 3) := by decide +kernel
theorem dX3_trial_8 : decode cX3_trial 8 = .ok (.ifCond .ne 6, 3) := by decide +kernel
theorem dX3_trial_11 : decode cX3_trial 11 = .ok (.bipush (-101), 2) := by decide +kernel
theorem dX3_trial_13 : decode cX3_trial 13 = .ok (.ireturn, 1) := by decide +kernel
theorem dX3_trial_14 : decode cX3_trial 14 = .ok (.aload_n 0, 1) := by decide +kernel
theorem dX3_trial_15 : decode cX3_trial 15 = .ok (.getfield 19, 3) := by decide +kernel
theorem dX3_trial_18 : decode cX3_trial 18 = .ok (.getfield 168, 3) := by decide +kernel
theorem dX3_trial_21 : decode cX3_trial 21 = .ok (.bipush 8, 2) := by decide +kernel
theorem dX3_trial_23 : decode cX3_trial 23 = .ok (.if_icmp .lt 6, 3) := by decide +kernel
theorem dX3_trial_26 : decode cX3_trial 26 = .ok (.bipush (-104), 2) := by decide +kernel
theorem dX3_trial_28 : decode cX3_trial 28 = .ok (.ireturn, 1) := by decide +kernel
theorem dX3_trial_29 : decode cX3_trial 29 = .ok (.aload_n 0, 1) := by decide +kernel
theorem dX3_trial_30 : decode cX3_trial 30 = .ok (.getfield 19, 3) := by decide +kernel
theorem dX3_trial_33 : decode cX3_trial 33 = .ok (.iload_n 1, 1) := by decide +kernel
theorem dX3_trial_34 : decode cX3_trial 34 = .ok (.iload_n 2, 1) := by decide +kernel
theorem dX3_trial_35 : decode cX3_trial 35 = .ok (.invokevirtual 171, 3) := by decide +kernel
theorem dX3_trial_38 : decode cX3_trial 38 = .ok (.ireturn, 1) := by decide +kernel
set_option maxRecDepth 20000 in
theorem ggX3_forget_X1_dropTrials : GoodIn wsX3_forget wsX1_dropTrials := goodIn_r _ [6, 7, 8, 17, 18, 19, 20, 21, 22, 23, 24, 25, 26, 27] (by decide +kernel) (by decide +kernel)
set_option maxRecDepth 20000 in
theorem gX3_forget_X1_dropTrials : GoodIn wsX3_forget (wsV RX3 175 RX1 yX1_dropTrials wsX1_dropTrials) := goodIn_app (goodIn_of _ (by decide +kernel)) ggX3_forget_X1_dropTrials
theorem dX3_forget_0 : decode cX3_forget 0 = .ok (.aload_n 0, 1) := by decide +kernel
theorem dX3_forget_1 : decode cX3_forget 1 = .ok (.getfield 19, 3) := by decide +kernel
theorem dX3_forget_4 : decode cX3_forget 4 = .ok (.invokevirtual 175, 3) := by decide +kernel
theorem dX3_forget_7 : decode cX3_forget 7 = .ok (.ireturn, 1) := by decide +kernel
set_option maxRecDepth 20000 in
theorem ggX3_births_X3_isKind : GoodIn wsX3_births wsX3_isKind := goodIn_r _ [5] (by decide +kernel) (by decide +kernel)
set_option maxRecDepth 20000 in
theorem gX3_births_X3_isKind : GoodIn wsX3_births (va_wsS RX3 96 yX3_isKind wsX3_isKind) := goodIn_app (goodIn_of _ (by decide +kernel)) ggX3_births_X3_isKind
set_option maxRecDepth 20000 in
theorem ggX3_births_X1_isThere : GoodIn wsX3_births wsX1_isThere := goodIn_r _ [10, 11, 73, 74, 75, 76, 77, 78, 79, 80, 81, 82, 83] (by decide +kernel) (by decide +kernel)
set_option maxRecDepth 20000 in
theorem gX3_births_X1_isThere : GoodIn wsX3_births (wsV RX3 99 RX1 yX1_isThere wsX1_isThere) := goodIn_app (goodIn_of _ (by decide +kernel)) ggX3_births_X1_isThere
set_option maxRecDepth 20000 in
theorem ggX3_births_X1_possibleBirths : GoodIn wsX3_births wsX1_possibleBirths := goodIn_r _ [15, 16, 17, 18, 19, 20, 21, 22, 9, 23, 11, 24, 25, 26, 27, 28, 29, 30, 31, 32, 33, 34, 35, 36, 37, 38, 39, 40, 41, 42, 43, 44, 45, 46, 47, 48, 49, 50, 51, 52, 53, 54, 55, 56, 57, 58, 59, 60, 61, 62, 63, 4, 64, 73, 74, 75, 76, 77, 78, 79, 80, 81, 82, 83, 84, 85] (by decide +kernel) (by decide +kernel)
set_option maxRecDepth 20000 in
theorem gX3_births_X1_possibleBirths : GoodIn wsX3_births (wsV RX3 178 RX1 yX1_possibleBirths wsX1_possibleBirths) := goodIn_app (goodIn_of _ (by decide +kernel)) ggX3_births_X1_possibleBirths
theorem dX3_births_0 : decode cX3_births 0 = .ok (.iload_n 1, 1) := by decide +kernel
theorem dX3_births_1 : decode cX3_births 1 = .ok (.invokestatic 96, 3) := by decide +kernel
theorem dX3_births_4 : decode cX3_births 4 = .ok (.ifCond .ne 6, 3) := by decide +kernel
theorem dX3_births_7 : decode cX3_births 7 = .ok (.bipush (-102), 2) := by decide +kernel
theorem dX3_births_9 : decode cX3_births 9 = .ok (.ireturn, 1) := by decide +kernel
theorem dX3_births_10 : decode cX3_births 10 = .ok (.aload_n 0, 1) := by decide +kernel
theorem dX3_births_11 : decode cX3_births 11 = .ok (.getfield 19, 3) := by decide +kernel
theorem dX3_births_14 : decode cX3_births 14 = .ok (.invokevirtual 99, 3) := by decide +kernel
theorem dX3_births_17 : decode cX3_births 17 = .ok (.ifCond .ne 6, 3) := by decide +kernel
theorem dX3_births_20 : decode cX3_births 20 = .ok (.bipush (-103), 2) := by decide +kernel
theorem dX3_births_22 : decode cX3_births 22 = .ok (.ireturn, 1) := by decide +kernel
theorem dX3_births_23 : decode cX3_births 23 = .ok (.aload_n 0, 1) := by decide +kernel
theorem dX3_births_24 : decode cX3_births 24 = .ok (.getfield 19, 3) := by decide +kernel
theorem dX3_births_27 : decode cX3_births 27 = .ok (.iload_n 1, 1) := by decide +kernel
theorem dX3_births_28 : decode cX3_births 28 = .ok (.invokevirtual 178, 3) := by decide +kernel
theorem dX3_births_31 : decode cX3_births 31 = .ok (.ireturn, 1) := by decide +kernel
set_option maxRecDepth 20000 in
theorem ggX3_ask_X3_isKind : GoodIn wsX3_ask wsX3_isKind := goodIn_r _ [5] (by decide +kernel) (by decide +kernel)
set_option maxRecDepth 20000 in
theorem gX3_ask_X3_isKind : GoodIn wsX3_ask (va_wsS RX3 96 yX3_isKind wsX3_isKind) := goodIn_app (goodIn_of _ (by decide +kernel)) ggX3_ask_X3_isKind
set_option maxRecDepth 20000 in
theorem ggX3_ask_X1_isThere : GoodIn wsX3_ask wsX1_isThere := goodIn_r _ [10, 11, 85, 86, 87, 88, 89, 90, 91, 92, 93, 94, 95] (by decide +kernel) (by decide +kernel)
set_option maxRecDepth 20000 in
theorem gX3_ask_X1_isThere : GoodIn wsX3_ask (wsV RX3 99 RX1 yX1_isThere wsX1_isThere) := goodIn_app (goodIn_of _ (by decide +kernel)) ggX3_ask_X1_isThere
set_option maxRecDepth 20000 in
theorem ggX3_ask_X1_bestQuestion : GoodIn wsX3_ask wsX1_bestQuestion := goodIn_r _ [15, 11, 16, 17, 18, 19, 20, 9, 21, 22, 23, 24, 25, 26, 27, 28, 29, 30, 31, 32, 33, 34, 35, 36, 37, 38, 39, 40, 41, 42, 43, 44, 45, 46, 47, 48, 49, 50, 51, 52, 53, 54, 55, 56, 57, 58, 59, 60, 61, 62, 63, 64, 65, 66, 67, 68, 4, 69, 70, 71, 72, 73, 74, 75, 76, 85, 86, 87, 88, 89, 90, 91, 92, 93, 94, 95, 96, 97] (by decide +kernel) (by decide +kernel)
set_option maxRecDepth 20000 in
theorem gX3_ask_X1_bestQuestion : GoodIn wsX3_ask (wsV RX3 181 RX1 yX1_bestQuestion wsX1_bestQuestion) := goodIn_app (goodIn_of _ (by decide +kernel)) ggX3_ask_X1_bestQuestion
theorem dX3_ask_0 : decode cX3_ask 0 = .ok (.iload_n 1, 1) := by decide +kernel
theorem dX3_ask_1 : decode cX3_ask 1 = .ok (.invokestatic 96, 3) := by decide +kernel
theorem dX3_ask_4 : decode cX3_ask 4 = .ok (.ifCond .ne 6, 3) := by decide +kernel
theorem dX3_ask_7 : decode cX3_ask 7 = .ok (.bipush (-102), 2) := by decide +kernel
theorem dX3_ask_9 : decode cX3_ask 9 = .ok (.ireturn, 1) := by decide +kernel
theorem dX3_ask_10 : decode cX3_ask 10 = .ok (.aload_n 0, 1) := by decide +kernel
theorem dX3_ask_11 : decode cX3_ask 11 = .ok (.getfield 19, 3) := by decide +kernel
theorem dX3_ask_14 : decode cX3_ask 14 = .ok (.invokevirtual 99, 3) := by decide +kernel
theorem dX3_ask_17 : decode cX3_ask 17 = .ok (.ifCond .ne 6, 3) := by decide +kernel
theorem dX3_ask_20 : decode cX3_ask 20 = .ok (.bipush (-103), 2) := by decide +kernel
theorem dX3_ask_22 : decode cX3_ask 22 = .ok (.ireturn, 1) := by decide +kernel
theorem dX3_ask_23 : decode cX3_ask 23 = .ok (.aload_n 0, 1) := by decide +kernel
theorem dX3_ask_24 : decode cX3_ask 24 = .ok (.getfield 19, 3) := by decide +kernel
theorem dX3_ask_27 : decode cX3_ask 27 = .ok (.iload_n 1, 1) := by decide +kernel
theorem dX3_ask_28 : decode cX3_ask 28 = .ok (.invokevirtual 181, 3) := by decide +kernel
theorem dX3_ask_31 : decode cX3_ask 31 = .ok (.ireturn, 1) := by decide +kernel
set_option maxRecDepth 20000 in
theorem ggX3_topped_X1_hasCask : GoodIn wsX3_topped wsX1_hasCask := goodIn_r _ [7, 8, 110, 111, 112, 113, 114, 115, 116, 117, 118, 119, 120] (by decide +kernel) (by decide +kernel)
set_option maxRecDepth 20000 in
theorem gX3_topped_X1_hasCask : GoodIn wsX3_topped (wsV RX3 68 RX1 yX1_hasCask wsX1_hasCask) := goodIn_app (goodIn_of _ (by decide +kernel)) ggX3_topped_X1_hasCask
set_option maxRecDepth 20000 in
theorem ggX3_topped_X1_arePeople : GoodIn wsX3_topped wsX1_arePeople := goodIn_r _ [12, 13, 14, 15, 6, 16, 17, 110, 111, 112, 113, 114, 115, 116, 117, 118, 119, 120] (by decide +kernel) (by decide +kernel)
set_option maxRecDepth 20000 in
theorem gX3_topped_X1_arePeople : GoodIn wsX3_topped (wsV RX3 142 RX1 yX1_arePeople wsX1_arePeople) := goodIn_app (goodIn_of _ (by decide +kernel)) ggX3_topped_X1_arePeople
set_option maxRecDepth 20000 in
theorem ggX3_topped_X3_isZeroOrOne : GoodIn wsX3_topped wsX3_isZeroOrOne := goodIn_r _ [21] (by decide +kernel) (by decide +kernel)
set_option maxRecDepth 20000 in
theorem gX3_topped_X3_isZeroOrOne : GoodIn wsX3_topped (va_wsS RX3 148 yX3_isZeroOrOne wsX3_isZeroOrOne) := goodIn_app (goodIn_of _ (by decide +kernel)) ggX3_topped_X3_isZeroOrOne
set_option maxRecDepth 20000 in
theorem ggX3_topped_X3_canPourOne : GoodIn wsX3_topped wsX3_canPourOne := goodIn_r _ [25, 1, 26, 27, 28, 29, 30, 31, 32, 33, 102, 103, 104, 105, 106, 107, 108, 109, 110, 111, 112, 113, 114, 115, 116, 117, 118, 119, 120, 121, 122] (by decide +kernel) (by decide +kernel)
set_option maxRecDepth 20000 in
theorem gX3_topped_X3_canPourOne : GoodIn wsX3_topped (wsV RX3 184 RX3 yX3_canPourOne wsX3_canPourOne) := goodIn_app (goodIn_of _ (by decide +kernel)) ggX3_topped_X3_canPourOne
set_option maxRecDepth 20000 in
theorem ggX3_topped_X3_whoMayAfter : GoodIn wsX3_topped wsX3_whoMayAfter := goodIn_r _ [37, 38, 1, 26, 39, 40, 41, 31, 42, 43, 44, 45, 46, 47, 33, 48, 49, 50, 51, 52, 53, 54, 55, 56, 57, 58, 59, 60, 61, 62, 63, 64, 65, 66, 67, 68, 6, 69, 70, 17, 71, 72, 73, 74, 75, 76, 77, 78, 79, 80, 81, 82, 83, 84, 85, 86, 87, 88, 89, 90, 91, 92, 93, 94, 95, 96, 97, 98, 99, 100, 20, 101, 102, 103, 104, 105, 106, 107, 108, 109, 110, 111, 112, 113, 114, 115, 116, 117, 118, 119, 120, 121, 122] (by decide +kernel) (by decide +kernel)
set_option maxRecDepth 20000 in
theorem gX3_topped_X3_whoMayAfter : GoodIn wsX3_topped (wsV RX3 187 RX3 yX3_whoMayAfter wsX3_whoMayAfter) := goodIn_app (goodIn_of _ (by decide +kernel)) ggX3_topped_X3_whoMayAfter
theorem dX3_topped_0 : decode cX3_topped 0 = .ok (.aload_n 0, 1) := by decide +kernel
theorem dX3_topped_1 : decode cX3_topped 1 = .ok (.getfield 19, 3) := by decide +kernel
theorem dX3_topped_4 : decode cX3_topped 4 = .ok (.iload_n 1, 1) := by decide +kernel
theorem dX3_topped_5 : decode cX3_topped 5 = .ok (.invokevirtual 68, 3) := by decide +kernel
theorem dX3_topped_8 : decode cX3_topped 8 = .ok (.ifCond .ne 6, 3) := by decide +kernel
theorem dX3_topped_11 : decode cX3_topped 11 = .ok (.bipush (-101), 2) := by decide +kernel
theorem dX3_topped_13 : decode cX3_topped 13 = .ok (.ireturn, 1) := by decide +kernel
theorem dX3_topped_14 : decode cX3_topped 14 = .ok (.aload_n 0, 1) := by decide +kernel
theorem dX3_topped_15 : decode cX3_topped 15 = .ok (.getfield 19, 3) := by decide +kernel
theorem dX3_topped_18 : decode cX3_topped 18 = .ok (.iload_n 2, 1) := by decide +kernel
theorem dX3_topped_19 : decode cX3_topped 19 = .ok (.invokevirtual 142, 3) := by decide +kernel
theorem dX3_topped_22 : decode cX3_topped 22 = .ok (.ifCond .eq 10, 3) := by decide +kernel
theorem dX3_topped_25 : decode cX3_topped 25 = .ok (.iload_n 3, 1) := by decide +kernel
theorem dX3_topped_26 : decode cX3_topped 26 = .ok (.invokestatic 148, 3) := by decide +kernel
theorem dX3_topped_29 : decode cX3_topped 29 = .ok (.ifCond .ne 6, 3) := by decide +kernel
theorem dX3_topped_32 : decode cX3_topped 32 = .ok (.bipush (-102), 2) := by decide +kernel
theorem dX3_topped_34 : decode cX3_topped 34 = .ok (.ireturn, 1) := by decide +kernel
theorem dX3_topped_35 : decode cX3_topped 35 = .ok (.iconst 0, 1) := by decide +kernel
theorem dX3_topped_36 : decode cX3_topped 36 = .ok (.istore 4, 2) := by decide +kernel
theorem dX3_topped_38 : decode cX3_topped 38 = .ok (.iconst (-1), 1) := by decide +kernel
theorem dX3_topped_39 : decode cX3_topped 39 = .ok (.istore 5, 2) := by decide +kernel
theorem dX3_topped_41 : decode cX3_topped 41 = .ok (.iconst 0, 1) := by decide +kernel
theorem dX3_topped_42 : decode cX3_topped 42 = .ok (.istore 6, 2) := by decide +kernel
theorem dX3_topped_44 : decode cX3_topped 44 = .ok (.iload 6, 2) := by decide +kernel
theorem dX3_topped_46 : decode cX3_topped 46 = .ok (.aload_n 0, 1) := by decide +kernel
theorem dX3_topped_47 : decode cX3_topped 47 = .ok (.getfield 19, 3) := by decide +kernel
theorem dX3_topped_50 : decode cX3_topped 50 = .ok (.getfield 161, 3) := by decide +kernel
theorem dX3_topped_53 : decode cX3_topped 53 = .ok (.if_icmp .ge 76, 3) := by decide +kernel
theorem dX3_topped_56 : decode cX3_topped 56 = .ok (.iconst 0, 1) := by decide +kernel
theorem dX3_topped_57 : decode cX3_topped 57 = .ok (.istore 7, 2) := by decide +kernel
theorem dX3_topped_59 : decode cX3_topped 59 = .ok (.iload 7, 2) := by decide +kernel
theorem dX3_topped_61 : decode cX3_topped 61 = .ok (.aload_n 0, 1) := by decide +kernel
theorem dX3_topped_62 : decode cX3_topped 62 = .ok (.getfield 19, 3) := by decide +kernel
theorem dX3_topped_65 : decode cX3_topped 65 = .ok (.getfield 161, 3) := by decide +kernel
theorem dX3_topped_68 : decode cX3_topped 68 = .ok (.if_icmp .ge 55, 3) := by decide +kernel
theorem dX3_topped_71 : decode cX3_topped 71 = .ok (.aload_n 0, 1) := by decide +kernel
theorem dX3_topped_72 : decode cX3_topped 72 = .ok (.iload 6, 2) := by decide +kernel
theorem dX3_topped_74 : decode cX3_topped 74 = .ok (.iload 7, 2) := by decide +kernel
theorem dX3_topped_76 : decode cX3_topped 76 = .ok (.invokevirtual 184, 3) := by decide +kernel
theorem dX3_topped_79 : decode cX3_topped 79 = .ok (.ifCond .eq 38, 3) := by decide +kernel
theorem dX3_topped_82 : decode cX3_topped 82 = .ok (.aload_n 0, 1) := by decide +kernel
theorem dX3_topped_83 : decode cX3_topped 83 = .ok (.iload_n 1, 1) := by decide +kernel
theorem dX3_topped_84 : decode cX3_topped 84 = .ok (.iload 6, 2) := by decide +kernel
theorem dX3_topped_86 : decode cX3_topped 86 = .ok (.iload 7, 2) := by decide +kernel
theorem dX3_topped_88 : decode cX3_topped 88 = .ok (.invokevirtual 187, 3) := by decide +kernel
theorem dX3_topped_91 : decode cX3_topped 91 = .ok (.iload_n 2, 1) := by decide +kernel
theorem dX3_topped_92 : decode cX3_topped 92 = .ok (.if_icmp .ne 25, 3) := by decide +kernel
theorem dX3_topped_95 : decode cX3_topped 95 = .ok (.iload 4, 2) := by decide +kernel
theorem dX3_topped_97 : decode cX3_topped 97 = .ok (.ifCond .ne 13, 3) := by decide +kernel
theorem dX3_topped_100 : decode cX3_topped 100 = .ok (.iconst 5, 1) := by decide +kernel
theorem dX3_topped_101 : decode cX3_topped 101 = .ok (.iload 6, 2) := by decide +kernel
theorem dX3_topped_103 : decode cX3_topped 103 = .ok (.imul, 1) := by decide +kernel
theorem dX3_topped_104 : decode cX3_topped 104 = .ok (.iload 7, 2) := by decide +kernel
theorem dX3_topped_106 : decode cX3_topped 106 = .ok (.iadd, 1) := by decide +kernel
theorem dX3_topped_107 : decode cX3_topped 107 = .ok (.goto 5, 3) := by decide +kernel
theorem dX3_topped_110 : decode cX3_topped 110 = .ok (.iload 5, 2) := by decide +kernel
theorem dX3_topped_112 : decode cX3_topped 112 = .ok (.istore 5, 2) := by decide +kernel
theorem dX3_topped_114 : decode cX3_topped 114 = .ok (.iinc 4 1, 3) := by decide +kernel
theorem dX3_topped_117 : decode cX3_topped 117 = .ok (.iinc 7 1, 3) := by decide +kernel
theorem dX3_topped_120 : decode cX3_topped 120 = .ok (.goto (-61), 3) := by decide +kernel
theorem dX3_topped_123 : decode cX3_topped 123 = .ok (.iinc 6 1, 3) := by decide +kernel
theorem dX3_topped_126 : decode cX3_topped 126 = .ok (.goto (-82), 3) := by decide +kernel
theorem dX3_topped_129 : decode cX3_topped 129 = .ok (.iload_n 3, 1) := by decide +kernel
theorem dX3_topped_130 : decode cX3_topped 130 = .ok (.ifCond .ne 8, 3) := by decide +kernel
theorem dX3_topped_133 : decode cX3_topped 133 = .ok (.iload 4, 2) := by decide +kernel
theorem dX3_topped_135 : decode cX3_topped 135 = .ok (.goto 5, 3) := by decide +kernel
theorem dX3_topped_138 : decode cX3_topped 138 = .ok (.iload 5, 2) := by decide +kernel
theorem dX3_topped_140 : decode cX3_topped 140 = .ok (.ireturn, 1) := by decide +kernel
set_option maxRecDepth 20000 in
theorem ggX3_feasts_X1_become : GoodIn wsX3_feasts wsX1_become := goodIn_r _ [9, 10, 11, 12, 13, 14, 15, 16, 17, 18, 19, 20, 21, 22, 23, 24, 25, 26, 27, 28, 29, 30, 31, 32, 33, 34, 35, 36, 37, 38, 39, 40, 41, 42, 124, 125, 126, 127, 128, 129, 130, 131, 132, 133, 134, 135, 136] (by decide +kernel) (by decide +kernel)
set_option maxRecDepth 20000 in
theorem gX3_feasts_X1_become : GoodIn wsX3_feasts (wsV RX3 190 RX1 yX1_become wsX1_become) := goodIn_app (goodIn_of _ (by decide +kernel)) ggX3_feasts_X1_become
set_option maxRecDepth 20000 in
theorem ggX3_feasts_X3_nextSeed : GoodIn wsX3_feasts wsX3_nextSeed := goodIn_r _ [46, 47, 48, 49] (by decide +kernel) (by decide +kernel)
set_option maxRecDepth 20000 in
theorem gX3_feasts_X3_nextSeed : GoodIn wsX3_feasts (va_wsS RX3 194 yX3_nextSeed wsX3_nextSeed) := goodIn_app (goodIn_of _ (by decide +kernel)) ggX3_feasts_X3_nextSeed
set_option maxRecDepth 20000 in
theorem ggX3_feasts_X3_draw : GoodIn wsX3_feasts wsX3_draw := goodIn_r _ [52, 53] (by decide +kernel) (by decide +kernel)
set_option maxRecDepth 20000 in
theorem gX3_feasts_X3_draw : GoodIn wsX3_feasts (va_wsS RX3 197 yX3_draw wsX3_draw) := goodIn_app (goodIn_of _ (by decide +kernel)) ggX3_feasts_X3_draw
set_option maxRecDepth 20000 in
theorem ggX3_feasts_X1_sip : GoodIn wsX3_feasts wsX1_sip := goodIn_r _ [57, 12, 58, 20, 59, 60, 61, 8, 62, 13, 63, 64, 65, 66, 11, 67, 68, 69, 70, 71, 72, 73, 74, 10, 14, 19, 75, 76, 77, 27, 78, 34, 79, 80, 81, 82, 33, 83, 84, 85, 86, 87, 88, 89, 90, 91, 92, 93, 94, 95, 96, 97, 98, 99, 100, 101, 102, 103, 104, 105, 106, 45, 107, 108, 109, 110, 111, 39, 40, 41, 42, 124, 125, 126, 127, 128, 129, 130, 131, 132, 133, 134, 135, 136] (by decide +kernel) (by decide +kernel)
set_option maxRecDepth 20000 in
theorem gX3_feasts_X1_sip : GoodIn wsX3_feasts (wsV RX3 129 RX1 yX1_sip wsX1_sip) := goodIn_app (goodIn_of _ (by decide +kernel)) ggX3_feasts_X1_sip
set_option maxRecDepth 20000 in
theorem ggX3_feasts_X1_litresInAll : GoodIn wsX3_feasts wsX1_litresInAll := goodIn_r _ [115, 11, 12, 58, 124, 125, 126, 127, 128, 129, 130, 131, 132, 133, 134, 135, 136] (by decide +kernel) (by decide +kernel)
set_option maxRecDepth 20000 in
theorem gX3_feasts_X1_litresInAll : GoodIn wsX3_feasts (wsV RX3 200 RX1 yX1_litresInAll wsX1_litresInAll) := goodIn_app (goodIn_of _ (by decide +kernel)) ggX3_feasts_X1_litresInAll
theorem dX3_feasts_0 : decode cX3_feasts 0 = .ok (.iload_n 1, 1) := by decide +kernel
theorem dX3_feasts_1 : decode cX3_feasts 1 = .ok (.iconst 1, 1) := by decide +kernel
theorem dX3_feasts_2 : decode cX3_feasts 2 = .ok (.if_icmp .lt 22, 3) := by decide +kernel
theorem dX3_feasts_5 : decode cX3_feasts 5 = .ok (.iload_n 1, 1) := by decide +kernel
theorem dX3_feasts_6 : decode cX3_feasts 6 = .ok (.bipush 60, 2) := by decide +kernel
theorem dX3_feasts_8 : decode cX3_feasts 8 = .ok (.if_icmp .gt 16, 3) := by decide +kernel
theorem dX3_feasts_11 : decode cX3_feasts 11 = .ok (.iload_n 2, 1) := by decide +kernel
theorem dX3_feasts_12 : decode cX3_feasts 12 = .ok (.ifCond .lt 12, 3) := by decide +kernel
theorem dX3_feasts_15 : decode cX3_feasts 15 = .ok (.iload_n 3, 1) := by decide +kernel
theorem dX3_feasts_16 : decode cX3_feasts 16 = .ok (.ifCond .lt 8, 3) := by decide +kernel
theorem dX3_feasts_19 : decode cX3_feasts 19 = .ok (.iload_n 3, 1) := by decide +kernel
theorem dX3_feasts_20 : decode cX3_feasts 20 = .ok (.iconst 2, 1) := by decide +kernel
theorem dX3_feasts_21 : decode cX3_feasts 21 = .ok (.if_icmp .le 6, 3) := by decide +kernel
theorem dX3_feasts_24 : decode cX3_feasts 24 = .ok (.bipush (-102), 2) := by decide +kernel
theorem dX3_feasts_26 : decode cX3_feasts 26 = .ok (.ireturn, 1) := by decide +kernel
theorem dX3_feasts_27 : decode cX3_feasts 27 = .ok (.aload_n 0, 1) := by decide +kernel
theorem dX3_feasts_28 : decode cX3_feasts 28 = .ok (.getfield 19, 3) := by decide +kernel
theorem dX3_feasts_31 : decode cX3_feasts 31 = .ok (.getfield 103, 3) := by decide +kernel
theorem dX3_feasts_34 : decode cX3_feasts 34 = .ok (.ifCond .ne 6, 3) := by decide +kernel
theorem dX3_feasts_37 : decode cX3_feasts 37 = .ok (.bipush (-103), 2) := by decide +kernel
theorem dX3_feasts_39 : decode cX3_feasts 39 = .ok (.ireturn, 1) := by decide +kernel
theorem dX3_feasts_40 : decode cX3_feasts 40 = .ok (.aload_n 0, 1) := by decide +kernel
theorem dX3_feasts_41 : decode cX3_feasts 41 = .ok (.getfield 26, 3) := by decide +kernel
theorem dX3_feasts_44 : decode cX3_feasts 44 = .ok (.aload_n 0, 1) := by decide +kernel
theorem dX3_feasts_45 : decode cX3_feasts 45 = .ok (.getfield 19, 3) := by decide +kernel
theorem dX3_feasts_48 : decode cX3_feasts 48 = .ok (.invokevirtual 190, 3) := by decide +kernel
theorem dX3_feasts_51 : decode cX3_feasts 51 = .ok (.iload_n 2, 1) := by decide +kernel
theorem dX3_feasts_52 : decode cX3_feasts 52 = .ok (.istore 4, 2) := by decide +kernel
theorem dX3_feasts_54 : decode cX3_feasts 54 = .ok (.iconst 0, 1) := by decide +kernel
theorem dX3_feasts_55 : decode cX3_feasts 55 = .ok (.istore 5, 2) := by decide +kernel
theorem dX3_feasts_57 : decode cX3_feasts 57 = .ok (.iconst 0, 1) := by decide +kernel
theorem dX3_feasts_58 : decode cX3_feasts 58 = .ok (.istore 6, 2) := by decide +kernel
theorem dX3_feasts_60 : decode cX3_feasts 60 = .ok (.iload 6, 2) := by decide +kernel
theorem dX3_feasts_62 : decode cX3_feasts 62 = .ok (.iload_n 1, 1) := by decide +kernel
theorem dX3_feasts_63 : decode cX3_feasts 63 = .ok (.if_icmp .ge 67, 3) := by decide +kernel
theorem dX3_feasts_66 : decode cX3_feasts 66 = .ok (.iload 4, 2) := by decide +kernel
theorem dX3_feasts_68 : decode cX3_feasts 68 = .ok (.invokestatic 194, 3) := by decide +kernel
theorem dX3_feasts_71 : decode cX3_feasts 71 = .ok (.istore 4, 2) := by decide +kernel
theorem dX3_feasts_73 : decode cX3_feasts 73 = .ok (.iload 4, 2) := by decide +kernel
theorem dX3_feasts_75 : decode cX3_feasts 75 = .ok (.aload_n 0, 1) := by decide +kernel
theorem dX3_feasts_76 : decode cX3_feasts 76 = .ok (.getfield 26, 3) := by decide +kernel
theorem dX3_feasts_79 : decode cX3_feasts 79 = .ok (.getfield 103, 3) := by decide +kernel
theorem dX3_feasts_82 : decode cX3_feasts 82 = .ok (.invokestatic 197, 3) := by decide +kernel
theorem dX3_feasts_85 : decode cX3_feasts 85 = .ok (.istore 7, 2) := by decide +kernel
theorem dX3_feasts_87 : decode cX3_feasts 87 = .ok (.iload 4, 2) := by decide +kernel
theorem dX3_feasts_89 : decode cX3_feasts 89 = .ok (.invokestatic 194, 3) := by decide +kernel
theorem dX3_feasts_92 : decode cX3_feasts 92 = .ok (.istore 4, 2) := by decide +kernel
theorem dX3_feasts_94 : decode cX3_feasts 94 = .ok (.iload 4, 2) := by decide +kernel
theorem dX3_feasts_96 : decode cX3_feasts 96 = .ok (.aload_n 0, 1) := by decide +kernel
theorem dX3_feasts_97 : decode cX3_feasts 97 = .ok (.getfield 26, 3) := by decide +kernel
theorem dX3_feasts_100 : decode cX3_feasts 100 = .ok (.getfield 161, 3) := by decide +kernel
theorem dX3_feasts_103 : decode cX3_feasts 103 = .ok (.invokestatic 197, 3) := by decide +kernel
theorem dX3_feasts_106 : decode cX3_feasts 106 = .ok (.istore 8, 2) := by decide +kernel
theorem dX3_feasts_108 : decode cX3_feasts 108 = .ok (.iload 5, 2) := by decide +kernel
theorem dX3_feasts_110 : decode cX3_feasts 110 = .ok (.aload_n 0, 1) := by decide +kernel
theorem dX3_feasts_111 : decode cX3_feasts 111 = .ok (.getfield 26, 3) := by decide +kernel
theorem dX3_feasts_114 : decode cX3_feasts 114 = .ok (.iload 7, 2) := by decide +kernel
theorem dX3_feasts_116 : decode cX3_feasts 116 = .ok (.iload 8, 2) := by decide +kernel
theorem dX3_feasts_118 : decode cX3_feasts 118 = .ok (.invokevirtual 129, 3) := by decide +kernel
theorem dX3_feasts_121 : decode cX3_feasts 121 = .ok (.iadd, 1) := by decide +kernel
theorem dX3_feasts_122 : decode cX3_feasts 122 = .ok (.istore 5, 2) := by decide +kernel
theorem dX3_feasts_124 : decode cX3_feasts 124 = .ok (.iinc 6 1, 3) := by decide +kernel
theorem dX3_feasts_127 : decode cX3_feasts 127 = .ok (.goto (-67), 3) := by decide +kernel
theorem dX3_feasts_130 : decode cX3_feasts 130 = .ok (.iload_n 3, 1) := by decide +kernel
theorem dX3_feasts_131 : decode cX3_feasts 131 = .ok (.ifCond .ne 6, 3) := by decide +kernel
theorem dX3_feasts_134 : decode cX3_feasts 134 = .ok (.iload 5, 2) := by decide +kernel
theorem dX3_feasts_136 : decode cX3_feasts 136 = .ok (.ireturn, 1) := by decide +kernel
theorem dX3_feasts_137 : decode cX3_feasts 137 = .ok (.iload_n 3, 1) := by decide +kernel
theorem dX3_feasts_138 : decode cX3_feasts 138 = .ok (.iconst 1, 1) := by decide +kernel
theorem dX3_feasts_139 : decode cX3_feasts 139 = .ok (.if_icmp .ne 13, 3) := by decide +kernel
theorem dX3_feasts_142 : decode cX3_feasts 142 = .ok (.aload_n 0, 1) := by decide +kernel
theorem dX3_feasts_143 : decode cX3_feasts 143 = .ok (.getfield 26, 3) := by decide +kernel
theorem dX3_feasts_146 : decode cX3_feasts 146 = .ok (.invokevirtual 200, 3) := by decide +kernel
theorem dX3_feasts_149 : decode cX3_feasts 149 = .ok (.goto 5, 3) := by decide +kernel
theorem dX3_feasts_152 : decode cX3_feasts 152 = .ok (.iload 4, 2) := by decide +kernel
theorem dX3_feasts_154 : decode cX3_feasts 154 = .ok (.ireturn, 1) := by decide +kernel
set_option maxRecDepth 20000 in
theorem ggX3_image_X1_isThere : GoodIn wsX3_image wsX1_isThere := goodIn_r _ [8, 9, 59, 60, 61, 62, 63, 64, 65, 66, 67, 68, 69] (by decide +kernel) (by decide +kernel)
set_option maxRecDepth 20000 in
theorem gX3_image_X1_isThere : GoodIn wsX3_image (wsV RX3 99 RX1 yX1_isThere wsX1_isThere) := goodIn_app (goodIn_of _ (by decide +kernel)) ggX3_image_X1_isThere
set_option maxRecDepth 20000 in
theorem ggX3_image_X1_become : GoodIn wsX3_image wsX1_become := goodIn_r _ [13, 14, 9, 15, 16, 17, 18, 19, 20, 21, 22, 23, 24, 25, 26, 27, 28, 29, 30, 31, 32, 33, 34, 35, 36, 37, 38, 39, 40, 41, 42, 43, 44, 45, 59, 60, 61, 62, 63, 64, 65, 66, 67, 68, 69, 70, 71] (by decide +kernel) (by decide +kernel)
set_option maxRecDepth 20000 in
theorem gX3_image_X1_become : GoodIn wsX3_image (wsV RX3 190 RX1 yX1_become wsX1_become) := goodIn_app (goodIn_of _ (by decide +kernel)) ggX3_image_X1_become
set_option maxRecDepth 20000 in
theorem ggX3_image_X1_litresInAll : GoodIn wsX3_image wsX1_litresInAll := goodIn_r _ [49, 9, 15, 50, 59, 60, 61, 62, 63, 64, 65, 66, 67, 68, 69, 70, 71] (by decide +kernel) (by decide +kernel)
set_option maxRecDepth 20000 in
theorem gX3_image_X1_litresInAll : GoodIn wsX3_image (wsV RX3 200 RX1 yX1_litresInAll wsX1_litresInAll) := goodIn_app (goodIn_of _ (by decide +kernel)) ggX3_image_X1_litresInAll
theorem dX3_image_0 : decode cX3_image 0 = .ok (.aload_n 0, 1) := by decide +kernel
theorem dX3_image_1 : decode cX3_image 1 = .ok (.getfield 19, 3) := by decide +kernel
theorem dX3_image_4 : decode cX3_image 4 = .ok (.invokevirtual 99, 3) := by decide +kernel
theorem dX3_image_7 : decode cX3_image 7 = .ok (.ifCond .ne 6, 3) := by decide +kernel
theorem dX3_image_10 : decode cX3_image 10 = .ok (.bipush (-103), 2) := by decide +kernel
theorem dX3_image_12 : decode cX3_image 12 = .ok (.ireturn, 1) := by decide +kernel
theorem dX3_image_13 : decode cX3_image 13 = .ok (.aload_n 0, 1) := by decide +kernel
theorem dX3_image_14 : decode cX3_image 14 = .ok (.getfield 23, 3) := by decide +kernel
theorem dX3_image_17 : decode cX3_image 17 = .ok (.aload_n 0, 1) := by decide +kernel
theorem dX3_image_18 : decode cX3_image 18 = .ok (.getfield 19, 3) := by decide +kernel
theorem dX3_image_21 : decode cX3_image 21 = .ok (.invokevirtual 190, 3) := by decide +kernel
theorem dX3_image_24 : decode cX3_image 24 = .ok (.aload_n 0, 1) := by decide +kernel
theorem dX3_image_25 : decode cX3_image 25 = .ok (.iconst 1, 1) := by decide +kernel
theorem dX3_image_26 : decode cX3_image 26 = .ok (.putfield 39, 3) := by decide +kernel
theorem dX3_image_29 : decode cX3_image 29 = .ok (.aload_n 0, 1) := by decide +kernel
theorem dX3_image_30 : decode cX3_image 30 = .ok (.getfield 19, 3) := by decide +kernel
theorem dX3_image_33 : decode cX3_image 33 = .ok (.invokevirtual 200, 3) := by decide +kernel
theorem dX3_image_36 : decode cX3_image 36 = .ok (.ireturn, 1) := by decide +kernel
set_option maxRecDepth 20000 in
theorem ggX3_restore_X1_become : GoodIn wsX3_restore wsX1_become := goodIn_r _ [8, 9, 10, 11, 12, 13, 14, 15, 16, 17, 18, 19, 20, 21, 22, 23, 24, 25, 26, 27, 28, 29, 30, 31, 32, 33, 34, 35, 36, 37, 38, 39, 40, 41, 55, 56, 57, 58, 59, 60, 61, 62, 63, 64, 65, 66, 67] (by decide +kernel) (by decide +kernel)
set_option maxRecDepth 20000 in
theorem gX3_restore_X1_become : GoodIn wsX3_restore (wsV RX3 190 RX1 yX1_become wsX1_become) := goodIn_app (goodIn_of _ (by decide +kernel)) ggX3_restore_X1_become
set_option maxRecDepth 20000 in
theorem ggX3_restore_X1_litresInAll : GoodIn wsX3_restore wsX1_litresInAll := goodIn_r _ [45, 10, 11, 46, 55, 56, 57, 58, 59, 60, 61, 62, 63, 64, 65, 66, 67] (by decide +kernel) (by decide +kernel)
set_option maxRecDepth 20000 in
theorem gX3_restore_X1_litresInAll : GoodIn wsX3_restore (wsV RX3 200 RX1 yX1_litresInAll wsX1_litresInAll) := goodIn_app (goodIn_of _ (by decide +kernel)) ggX3_restore_X1_litresInAll
theorem dX3_restore_0 : decode cX3_restore 0 = .ok (.aload_n 0, 1) := by decide +kernel
theorem dX3_restore_1 : decode cX3_restore 1 = .ok (.getfield 39, 3) := by decide +kernel
theorem dX3_restore_4 : decode cX3_restore 4 = .ok (.ifCond .ne 6, 3) := by decide +kernel
theorem dX3_restore_7 : decode cX3_restore 7 = .ok (.bipush (-103), 2) := by decide +kernel
theorem dX3_restore_9 : decode cX3_restore 9 = .ok (.ireturn, 1) := by decide +kernel
theorem dX3_restore_10 : decode cX3_restore 10 = .ok (.aload_n 0, 1) := by decide +kernel
theorem dX3_restore_11 : decode cX3_restore 11 = .ok (.getfield 19, 3) := by decide +kernel
theorem dX3_restore_14 : decode cX3_restore 14 = .ok (.aload_n 0, 1) := by decide +kernel
theorem dX3_restore_15 : decode cX3_restore 15 = .ok (.getfield 23, 3) := by decide +kernel
theorem dX3_restore_18 : decode cX3_restore 18 = .ok (.invokevirtual 190, 3) := by decide +kernel
theorem dX3_restore_21 : decode cX3_restore 21 = .ok (.aload_n 0, 1) := by decide +kernel
theorem dX3_restore_22 : decode cX3_restore 22 = .ok (.getfield 19, 3) := by decide +kernel
theorem dX3_restore_25 : decode cX3_restore 25 = .ok (.invokevirtual 200, 3) := by decide +kernel
theorem dX3_restore_28 : decode cX3_restore 28 = .ok (.ireturn, 1) := by decide +kernel
set_option maxRecDepth 20000 in
theorem ggX3_count_X1_litresInAll : GoodIn wsX3_count wsX1_litresInAll := goodIn_r _ [13, 14, 15, 16, 31, 32, 33, 34, 35, 36, 37, 38, 39, 40, 41, 44, 45] (by decide +kernel) (by decide +kernel)
set_option maxRecDepth 20000 in
theorem gX3_count_X1_litresInAll : GoodIn wsX3_count (wsV RX3 200 RX1 yX1_litresInAll wsX1_litresInAll) := goodIn_app (goodIn_of _ (by decide +kernel)) ggX3_count_X1_litresInAll
set_option maxRecDepth 20000 in
theorem ggX3_count_X1_illInAll : GoodIn wsX3_count wsX1_illInAll := goodIn_r _ [20, 21, 22, 31, 32, 33, 34, 35, 36, 37, 38, 39, 40, 41] (by decide +kernel) (by decide +kernel)
set_option maxRecDepth 20000 in
theorem gX3_count_X1_illInAll : GoodIn wsX3_count (wsV RX3 203 RX1 yX1_illInAll wsX1_illInAll) := goodIn_app (goodIn_of _ (by decide +kernel)) ggX3_count_X1_illInAll
theorem dX3_count_0 : decode cX3_count 0 = .ok (.iload_n 1, 1) := by decide +kernel
theorem dX3_count_1 : decode cX3_count 1 = .ok (.tableswitch 108 0 7 #[47, 55, 63, 71, 79, 87, 95, 103], 47) := by decide +kernel
theorem dX3_count_48 : decode cX3_count 48 = .ok (.aload_n 0, 1) := by decide +kernel
theorem dX3_count_49 : decode cX3_count 49 = .ok (.getfield 19, 3) := by decide +kernel
theorem dX3_count_52 : decode cX3_count 52 = .ok (.getfield 83, 3) := by decide +kernel
theorem dX3_count_55 : decode cX3_count 55 = .ok (.ireturn, 1) := by decide +kernel
theorem dX3_count_56 : decode cX3_count 56 = .ok (.aload_n 0, 1) := by decide +kernel
theorem dX3_count_57 : decode cX3_count 57 = .ok (.getfield 19, 3) := by decide +kernel
theorem dX3_count_60 : decode cX3_count 60 = .ok (.getfield 161, 3) := by decide +kernel
theorem dX3_count_63 : decode cX3_count 63 = .ok (.ireturn, 1) := by decide +kernel
theorem dX3_count_64 : decode cX3_count 64 = .ok (.aload_n 0, 1) := by decide +kernel
theorem dX3_count_65 : decode cX3_count 65 = .ok (.getfield 19, 3) := by decide +kernel
theorem dX3_count_68 : decode cX3_count 68 = .ok (.invokevirtual 200, 3) := by decide +kernel
theorem dX3_count_71 : decode cX3_count 71 = .ok (.ireturn, 1) := by decide +kernel
theorem dX3_count_72 : decode cX3_count 72 = .ok (.aload_n 0, 1) := by decide +kernel
theorem dX3_count_73 : decode cX3_count 73 = .ok (.getfield 19, 3) := by decide +kernel
theorem dX3_count_76 : decode cX3_count 76 = .ok (.getfield 103, 3) := by decide +kernel
theorem dX3_count_79 : decode cX3_count 79 = .ok (.ireturn, 1) := by decide +kernel
theorem dX3_count_80 : decode cX3_count 80 = .ok (.aload_n 0, 1) := by decide +kernel
theorem dX3_count_81 : decode cX3_count 81 = .ok (.getfield 19, 3) := by decide +kernel
theorem dX3_count_84 : decode cX3_count 84 = .ok (.invokevirtual 203, 3) := by decide +kernel
theorem dX3_count_87 : decode cX3_count 87 = .ok (.ireturn, 1) := by decide +kernel
theorem dX3_count_88 : decode cX3_count 88 = .ok (.aload_n 0, 1) := by decide +kernel
theorem dX3_count_89 : decode cX3_count 89 = .ok (.getfield 19, 3) := by decide +kernel
theorem dX3_count_92 : decode cX3_count 92 = .ok (.getfield 168, 3) := by decide +kernel
theorem dX3_count_95 : decode cX3_count 95 = .ok (.ireturn, 1) := by decide +kernel
theorem dX3_count_96 : decode cX3_count 96 = .ok (.aload_n 0, 1) := by decide +kernel
theorem dX3_count_97 : decode cX3_count 97 = .ok (.getfield 12, 3) := by decide +kernel
theorem dX3_count_100 : decode cX3_count 100 = .ok (.getfield 47, 3) := by decide +kernel
theorem dX3_count_103 : decode cX3_count 103 = .ok (.ireturn, 1) := by decide +kernel
theorem dX3_count_104 : decode cX3_count 104 = .ok (.aload_n 0, 1) := by decide +kernel
theorem dX3_count_105 : decode cX3_count 105 = .ok (.getfield 43, 3) := by decide +kernel
theorem dX3_count_108 : decode cX3_count 108 = .ok (.ireturn, 1) := by decide +kernel
theorem dX3_count_109 : decode cX3_count 109 = .ok (.bipush (-102), 2) := by decide +kernel
theorem dX3_count_111 : decode cX3_count 111 = .ok (.ireturn, 1) := by decide +kernel
set_option maxRecDepth 20000 in
theorem ggX3_digest_X3_withCask : GoodIn wsX3_digest wsX3_withCask := goodIn_r _ [12, 13, 14, 15, 11, 16, 2, 17, 18, 19, 20, 21, 22, 23, 24, 25, 26, 27, 28, 29, 30, 31, 32, 33, 34, 35, 36, 37, 38, 39, 40, 41, 42, 43, 44, 45, 46, 47, 48, 49, 50, 51, 52, 53, 54, 55, 56, 57, 58, 59, 60, 61, 62, 63, 64, 65, 66, 67, 68, 69, 70, 71, 72, 73, 74, 75, 76, 188, 189, 190, 191, 192, 193, 194, 195, 196, 197, 198, 199, 200, 201, 202, 203, 204, 205, 206, 209, 210] (by decide +kernel) (by decide +kernel)
set_option maxRecDepth 20000 in
theorem gX3_digest_X3_withCask : GoodIn wsX3_digest (wsV RX3 208 RX3 yX3_withCask wsX3_withCask) := goodIn_app (goodIn_of _ (by decide +kernel)) ggX3_digest_X3_withCask
set_option maxRecDepth 20000 in
theorem ggX3_digest_X3_about : GoodIn wsX3_digest wsX3_about := goodIn_r _ [80, 2, 81, 82, 83, 84, 85, 86, 24, 87, 55, 88, 89, 90, 91, 26, 92, 93, 94, 95, 96, 97, 51, 52, 53, 54, 56, 57, 58, 28, 29, 30, 31, 32, 33, 34, 35, 36, 37, 38, 39, 40, 41, 42, 43, 44, 45, 46, 47, 48, 49, 59, 60, 61, 62, 63, 64, 65, 66, 67, 68, 69, 70, 11, 71, 188, 189, 190, 191, 192, 193, 194, 195, 196, 197, 198, 199, 200, 201, 202, 203, 204, 205, 206, 209, 210] (by decide +kernel) (by decide +kernel)
set_option maxRecDepth 20000 in
theorem gX3_digest_X3_about : GoodIn wsX3_digest (wsV RX3 212 RX3 yX3_about wsX3_about) := goodIn_app (goodIn_of _ (by decide +kernel)) ggX3_digest_X3_about
set_option maxRecDepth 20000 in
theorem ggX3_digest_X3_with : GoodIn wsX3_digest wsX3_with := goodIn_r _ [75, 76] (by decide +kernel) (by decide +kernel)
set_option maxRecDepth 20000 in
theorem gX3_digest_X3_with : GoodIn wsX3_digest (va_wsS RX3 215 yX3_with wsX3_with) := goodIn_app (goodIn_of _ (by decide +kernel)) ggX3_digest_X3_with
set_option maxRecDepth 20000 in
theorem ggX3_digest_X1_isThere : GoodIn wsX3_digest wsX1_isThere := goodIn_r _ [101, 26, 196, 197, 198, 199, 200, 201, 202, 203, 204, 205, 206] (by decide +kernel) (by decide +kernel)
set_option maxRecDepth 20000 in
theorem gX3_digest_X1_isThere : GoodIn wsX3_digest (wsV RX3 99 RX1 yX1_isThere wsX1_isThere) := goodIn_app (goodIn_of _ (by decide +kernel)) ggX3_digest_X1_isThere
set_option maxRecDepth 20000 in
theorem ggX3_digest_X3_withQuestions : GoodIn wsX3_digest wsX3_withQuestions := goodIn_r _ [105, 2, 106, 107, 108, 24, 109, 55, 110, 111, 112, 11, 113, 3, 114, 19, 115, 64, 65, 66, 67, 68, 69, 116, 117, 118, 119, 17, 120, 121, 122, 30, 123, 37, 32, 124, 125, 126, 127, 128, 129, 130, 131, 132, 94, 95, 96, 97, 51, 52, 53, 54, 56, 57, 58, 28, 29, 31, 33, 34, 35, 36, 38, 39, 40, 41, 42, 43, 44, 45, 46, 47, 48, 49, 59, 60, 61, 62, 63, 70, 71, 133, 134, 135, 136, 26, 137, 92, 138, 139, 140, 141, 142, 143, 144, 145, 146, 73, 74, 75, 76, 147, 148, 149, 150, 151, 152, 153, 154, 155, 156, 157, 22, 23, 25, 158, 159, 160, 161, 162, 163, 164, 165, 166, 167, 168, 169, 170, 171, 172, 188, 189, 190, 191, 192, 193, 194, 195, 196, 197, 198, 199, 200, 201, 202, 203, 204, 205, 206, 209, 210] (by decide +kernel) (by decide +kernel)
set_option maxRecDepth 20000 in
theorem gX3_digest_X3_withQuestions : GoodIn wsX3_digest (wsV RX3 218 RX3 yX3_withQuestions wsX3_withQuestions) := goodIn_app (goodIn_of _ (by decide +kernel)) ggX3_digest_X3_withQuestions
set_option maxRecDepth 20000 in
theorem ggX3_digest_X3_count : GoodIn wsX3_digest wsX3_count := goodIn_r _ [176, 2, 20, 3, 4, 177, 5, 6, 178, 179, 180, 181, 24, 182, 26, 92, 146, 183, 184, 185, 186, 55, 187, 188, 189, 190, 191, 192, 193, 194, 195, 196, 197, 198, 199, 200, 201, 202, 203, 204, 205, 206, 207, 208, 209, 210] (by decide +kernel) (by decide +kernel)
set_option maxRecDepth 20000 in
theorem gX3_digest_X3_count : GoodIn wsX3_digest (wsV RX3 225 RX3 yX3_count wsX3_count) := goodIn_app (goodIn_of _ (by decide +kernel)) ggX3_digest_X3_count
theorem dX3_digest_0 : decode cX3_digest 0 = .ok (.ldc2_w 206, 3) := by decide +kernel
theorem dX3_digest_3 : decode cX3_digest 3 = .ok (.lstore_n 1, 1) := by decide +kernel
theorem dX3_digest_4 : decode cX3_digest 4 = .ok (.iconst 0, 1) := by decide +kernel
theorem dX3_digest_5 : decode cX3_digest 5 = .ok (.istore_n 3, 1) := by decide +kernel
theorem dX3_digest_6 : decode cX3_digest 6 = .ok (.iload_n 3, 1) := by decide +kernel
theorem dX3_digest_7 : decode cX3_digest 7 = .ok (.aload_n 0, 1) := by decide +kernel
theorem dX3_digest_8 : decode cX3_digest 8 = .ok (.getfield 19, 3) := by decide +kernel
theorem dX3_digest_11 : decode cX3_digest 11 = .ok (.getfield 161, 3) := by decide +kernel
theorem dX3_digest_14 : decode cX3_digest 14 = .ok (.if_icmp .ge 16, 3) := by decide +kernel
theorem dX3_digest_17 : decode cX3_digest 17 = .ok (.aload_n 0, 1) := by decide +kernel
theorem dX3_digest_18 : decode cX3_digest 18 = .ok (.lload_n 1, 1) := by decide +kernel
theorem dX3_digest_19 : decode cX3_digest 19 = .ok (.iload_n 3, 1) := by decide +kernel
theorem dX3_digest_20 : decode cX3_digest 20 = .ok (.invokevirtual 208, 3) := by decide +kernel
theorem dX3_digest_23 : decode cX3_digest 23 = .ok (.lstore_n 1, 1) := by decide +kernel
theorem dX3_digest_24 : decode cX3_digest 24 = .ok (.iinc 3 1, 3) := by decide +kernel
theorem dX3_digest_27 : decode cX3_digest 27 = .ok (.goto (-21), 3) := by decide +kernel
theorem dX3_digest_30 : decode cX3_digest 30 = .ok (.iconst 0, 1) := by decide +kernel
theorem dX3_digest_31 : decode cX3_digest 31 = .ok (.istore_n 3, 1) := by decide +kernel
theorem dX3_digest_32 : decode cX3_digest 32 = .ok (.iload_n 3, 1) := by decide +kernel
theorem dX3_digest_33 : decode cX3_digest 33 = .ok (.aload_n 0, 1) := by decide +kernel
theorem dX3_digest_34 : decode cX3_digest 34 = .ok (.getfield 19, 3) := by decide +kernel
theorem dX3_digest_37 : decode cX3_digest 37 = .ok (.getfield 103, 3) := by decide +kernel
theorem dX3_digest_40 : decode cX3_digest 40 = .ok (.if_icmp .ge 36, 3) := by decide +kernel
theorem dX3_digest_43 : decode cX3_digest 43 = .ok (.iconst 0, 1) := by decide +kernel
theorem dX3_digest_44 : decode cX3_digest 44 = .ok (.istore 4, 2) := by decide +kernel
theorem dX3_digest_46 : decode cX3_digest 46 = .ok (.iload 4, 2) := by decide +kernel
theorem dX3_digest_48 : decode cX3_digest 48 = .ok (.iconst 3, 1) := by decide +kernel
theorem dX3_digest_49 : decode cX3_digest 49 = .ok (.if_icmp .gt 21, 3) := by decide +kernel
theorem dX3_digest_52 : decode cX3_digest 52 = .ok (.lload_n 1, 1) := by decide +kernel
theorem dX3_digest_53 : decode cX3_digest 53 = .ok (.aload_n 0, 1) := by decide +kernel
theorem dX3_digest_54 : decode cX3_digest 54 = .ok (.iload_n 3, 1) := by decide +kernel
theorem dX3_digest_55 : decode cX3_digest 55 = .ok (.iload 4, 2) := by decide +kernel
theorem dX3_digest_57 : decode cX3_digest 57 = .ok (.invokevirtual 212, 3) := by decide +kernel
theorem dX3_digest_60 : decode cX3_digest 60 = .ok (.invokestatic 215, 3) := by decide +kernel
theorem dX3_digest_63 : decode cX3_digest 63 = .ok (.lstore_n 1, 1) := by decide +kernel
theorem dX3_digest_64 : decode cX3_digest 64 = .ok (.iinc 4 1, 3) := by decide +kernel
theorem dX3_digest_67 : decode cX3_digest 67 = .ok (.goto (-21), 3) := by decide +kernel
theorem dX3_digest_70 : decode cX3_digest 70 = .ok (.iinc 3 1, 3) := by decide +kernel
theorem dX3_digest_73 : decode cX3_digest 73 = .ok (.goto (-41), 3) := by decide +kernel
theorem dX3_digest_76 : decode cX3_digest 76 = .ok (.aload_n 0, 1) := by decide +kernel
theorem dX3_digest_77 : decode cX3_digest 77 = .ok (.getfield 19, 3) := by decide +kernel
theorem dX3_digest_80 : decode cX3_digest 80 = .ok (.invokevirtual 99, 3) := by decide +kernel
theorem dX3_digest_83 : decode cX3_digest 83 = .ok (.ifCond .eq 9, 3) := by decide +kernel
theorem dX3_digest_86 : decode cX3_digest 86 = .ok (.aload_n 0, 1) := by decide +kernel
theorem dX3_digest_87 : decode cX3_digest 87 = .ok (.lload_n 1, 1) := by decide +kernel
theorem dX3_digest_88 : decode cX3_digest 88 = .ok (.invokevirtual 218, 3) := by decide +kernel
theorem dX3_digest_91 : decode cX3_digest 91 = .ok (.lstore_n 1, 1) := by decide +kernel
theorem dX3_digest_92 : decode cX3_digest 92 = .ok (.iconst 0, 1) := by decide +kernel
theorem dX3_digest_93 : decode cX3_digest 93 = .ok (.istore_n 3, 1) := by decide +kernel
theorem dX3_digest_94 : decode cX3_digest 94 = .ok (.iload_n 3, 1) := by decide +kernel
theorem dX3_digest_95 : decode cX3_digest 95 = .ok (.aload_n 0, 1) := by decide +kernel
theorem dX3_digest_96 : decode cX3_digest 96 = .ok (.getfield 12, 3) := by decide +kernel
theorem dX3_digest_99 : decode cX3_digest 99 = .ok (.getfield 47, 3) := by decide +kernel
theorem dX3_digest_102 : decode cX3_digest 102 = .ok (.if_icmp .ge 23, 3) := by decide +kernel
theorem dX3_digest_105 : decode cX3_digest 105 = .ok (.lload_n 1, 1) := by decide +kernel
theorem dX3_digest_106 : decode cX3_digest 106 = .ok (.aload_n 0, 1) := by decide +kernel
theorem dX3_digest_107 : decode cX3_digest 107 = .ok (.getfield 12, 3) := by decide +kernel
theorem dX3_digest_110 : decode cX3_digest 110 = .ok (.getfield 222, 3) := by decide +kernel
theorem dX3_digest_113 : decode cX3_digest 113 = .ok (.iload_n 3, 1) := by decide +kernel
theorem dX3_digest_114 : decode cX3_digest 114 = .ok (.iaload, 1) := by decide +kernel
theorem dX3_digest_115 : decode cX3_digest 115 = .ok (.invokestatic 215, 3) := by decide +kernel
theorem dX3_digest_118 : decode cX3_digest 118 = .ok (.lstore_n 1, 1) := by decide +kernel
theorem dX3_digest_119 : decode cX3_digest 119 = .ok (.iinc 3 1, 3) := by decide +kernel
theorem dX3_digest_122 : decode cX3_digest 122 = .ok (.goto (-28), 3) := by decide +kernel
theorem dX3_digest_125 : decode cX3_digest 125 = .ok (.iconst 0, 1) := by decide +kernel
theorem dX3_digest_126 : decode cX3_digest 126 = .ok (.istore_n 3, 1) := by decide +kernel
theorem dX3_digest_127 : decode cX3_digest 127 = .ok (.iload_n 3, 1) := by decide +kernel
theorem dX3_digest_128 : decode cX3_digest 128 = .ok (.bipush 8, 2) := by decide +kernel
theorem dX3_digest_130 : decode cX3_digest 130 = .ok (.if_icmp .ge 19, 3) := by decide +kernel
theorem dX3_digest_133 : decode cX3_digest 133 = .ok (.lload_n 1, 1) := by decide +kernel
theorem dX3_digest_134 : decode cX3_digest 134 = .ok (.aload_n 0, 1) := by decide +kernel
theorem dX3_digest_135 : decode cX3_digest 135 = .ok (.iload_n 3, 1) := by decide +kernel
theorem dX3_digest_136 : decode cX3_digest 136 = .ok (.invokevirtual 225, 3) := by decide +kernel
theorem dX3_digest_139 : decode cX3_digest 139 = .ok (.invokestatic 215, 3) := by decide +kernel
theorem dX3_digest_142 : decode cX3_digest 142 = .ok (.lstore_n 1, 1) := by decide +kernel
theorem dX3_digest_143 : decode cX3_digest 143 = .ok (.iinc 3 1, 3) := by decide +kernel
theorem dX3_digest_146 : decode cX3_digest 146 = .ok (.goto (-19), 3) := by decide +kernel
theorem dX3_digest_149 : decode cX3_digest 149 = .ok (.lload_n 1, 1) := by decide +kernel
theorem dX3_digest_150 : decode cX3_digest 150 = .ok (.lreturn, 1) := by decide +kernel
theorem dX3_with_0 : decode cX3_with 0 = .ok (.ldc2_w 228, 3) := by decide +kernel
theorem dX3_with_3 : decode cX3_with 3 = .ok (.lload_n 0, 1) := by decide +kernel
theorem dX3_with_4 : decode cX3_with 4 = .ok (.lmul, 1) := by decide +kernel
theorem dX3_with_5 : decode cX3_with 5 = .ok (.iload_n 2, 1) := by decide +kernel
theorem dX3_with_6 : decode cX3_with 6 = .ok (.i2l, 1) := by decide +kernel
theorem dX3_with_7 : decode cX3_with 7 = .ok (.ladd, 1) := by decide +kernel
theorem dX3_with_8 : decode cX3_with 8 = .ok (.lreturn, 1) := by decide +kernel
set_option maxRecDepth 20000 in
theorem ggX3_withCask_X3_cask : GoodIn wsX3_withCask wsX3_cask := goodIn_r _ [5, 6, 7, 8, 9, 10, 11, 12, 13, 14, 15, 16, 17, 18, 19, 20, 21, 22, 23, 24, 25, 26, 27, 28, 29, 30, 31, 32, 33, 34, 35, 36, 37, 38, 39, 40, 41, 42, 43, 44, 45, 46, 47, 48, 49, 50, 51, 52, 53, 54, 55, 56, 57, 58, 59, 60, 4, 61, 62, 67, 68, 69, 70, 71, 72, 73, 74, 75, 76, 77, 78, 79, 80, 81, 82, 83, 84, 85, 86, 87] (by decide +kernel) (by decide +kernel)
set_option maxRecDepth 20000 in
theorem gX3_withCask_X3_cask : GoodIn wsX3_withCask (wsV RX3 230 RX3 yX3_cask wsX3_cask) := goodIn_app (goodIn_of _ (by decide +kernel)) ggX3_withCask_X3_cask
set_option maxRecDepth 20000 in
theorem ggX3_withCask_X3_with : GoodIn wsX3_withCask wsX3_with := goodIn_r _ [65, 66] (by decide +kernel) (by decide +kernel)
set_option maxRecDepth 20000 in
theorem gX3_withCask_X3_with : GoodIn wsX3_withCask (va_wsS RX3 215 yX3_with wsX3_with) := goodIn_app (goodIn_of _ (by decide +kernel)) ggX3_withCask_X3_with
theorem dX3_withCask_0 : decode cX3_withCask 0 = .ok (.lload_n 1, 1) := by decide +kernel
theorem dX3_withCask_1 : decode cX3_withCask 1 = .ok (.lstore 4, 2) := by decide +kernel
theorem dX3_withCask_3 : decode cX3_withCask 3 = .ok (.iconst 0, 1) := by decide +kernel
theorem dX3_withCask_4 : decode cX3_withCask 4 = .ok (.istore 6, 2) := by decide +kernel
theorem dX3_withCask_6 : decode cX3_withCask 6 = .ok (.iload 6, 2) := by decide +kernel
theorem dX3_withCask_8 : decode cX3_withCask 8 = .ok (.iconst 3, 1) := by decide +kernel
theorem dX3_withCask_9 : decode cX3_withCask 9 = .ok (.if_icmp .gt 23, 3) := by decide +kernel
theorem dX3_withCask_12 : decode cX3_withCask 12 = .ok (.lload 4, 2) := by decide +kernel
theorem dX3_withCask_14 : decode cX3_withCask 14 = .ok (.aload_n 0, 1) := by decide +kernel
theorem dX3_withCask_15 : decode cX3_withCask 15 = .ok (.iload_n 3, 1) := by decide +kernel
theorem dX3_withCask_16 : decode cX3_withCask 16 = .ok (.iload 6, 2) := by decide +kernel
theorem dX3_withCask_18 : decode cX3_withCask 18 = .ok (.invokevirtual 230, 3) := by decide +kernel
theorem dX3_withCask_21 : decode cX3_withCask 21 = .ok (.invokestatic 215, 3) := by decide +kernel
theorem dX3_withCask_24 : decode cX3_withCask 24 = .ok (.lstore 4, 2) := by decide +kernel
theorem dX3_withCask_26 : decode cX3_withCask 26 = .ok (.iinc 6 1, 3) := by decide +kernel
theorem dX3_withCask_29 : decode cX3_withCask 29 = .ok (.goto (-23), 3) := by decide +kernel
theorem dX3_withCask_32 : decode cX3_withCask 32 = .ok (.iconst 0, 1) := by decide +kernel
theorem dX3_withCask_33 : decode cX3_withCask 33 = .ok (.istore 6, 2) := by decide +kernel
theorem dX3_withCask_35 : decode cX3_withCask 35 = .ok (.iload 6, 2) := by decide +kernel
theorem dX3_withCask_37 : decode cX3_withCask 37 = .ok (.bipush 10, 2) := by decide +kernel
theorem dX3_withCask_39 : decode cX3_withCask 39 = .ok (.if_icmp .ge 26, 3) := by decide +kernel
theorem dX3_withCask_42 : decode cX3_withCask 42 = .ok (.lload 4, 2) := by decide +kernel
theorem dX3_withCask_44 : decode cX3_withCask 44 = .ok (.aload_n 0, 1) := by decide +kernel
theorem dX3_withCask_45 : decode cX3_withCask 45 = .ok (.iload_n 3, 1) := by decide +kernel
theorem dX3_withCask_46 : decode cX3_withCask 46 = .ok (.bipush 10, 2) := by decide +kernel
theorem dX3_withCask_48 : decode cX3_withCask 48 = .ok (.iload 6, 2) := by decide +kernel
theorem dX3_withCask_50 : decode cX3_withCask 50 = .ok (.iadd, 1) := by decide +kernel
theorem dX3_withCask_51 : decode cX3_withCask 51 = .ok (.invokevirtual 230, 3) := by decide +kernel
theorem dX3_withCask_54 : decode cX3_withCask 54 = .ok (.invokestatic 215, 3) := by decide +kernel
theorem dX3_withCask_57 : decode cX3_withCask 57 = .ok (.lstore 4, 2) := by decide +kernel
theorem dX3_withCask_59 : decode cX3_withCask 59 = .ok (.iinc 6 1, 3) := by decide +kernel
theorem dX3_withCask_62 : decode cX3_withCask 62 = .ok (.goto (-27), 3) := by decide +kernel
theorem dX3_withCask_65 : decode cX3_withCask 65 = .ok (.lload 4, 2) := by decide +kernel
theorem dX3_withCask_67 : decode cX3_withCask 67 = .ok (.lreturn, 1) := by decide +kernel
set_option maxRecDepth 20000 in
theorem ggX3_withQuestions_X1_allPeople : GoodIn wsX3_withQuestions wsX1_allPeople := goodIn_r _ [6, 7, 138, 139, 140, 141, 142, 143, 144, 145, 146, 147, 148] (by decide +kernel) (by decide +kernel)
set_option maxRecDepth 20000 in
theorem gX3_withQuestions_X1_allPeople : GoodIn wsX3_withQuestions (wsV RX3 233 RX1 yX1_allPeople wsX1_allPeople) := goodIn_app (goodIn_of _ (by decide +kernel)) ggX3_withQuestions_X1_allPeople
set_option maxRecDepth 20000 in
theorem ggX3_withQuestions_X3_leastBlend : GoodIn wsX3_withQuestions wsX3_leastBlend := goodIn_r _ [12, 1, 13, 14, 15, 16, 17, 18, 19, 20, 21, 22, 23, 24, 25, 11, 26, 27, 28, 29, 30, 31, 32, 33, 34, 35, 36, 37, 38, 39, 40, 41, 42, 43, 44, 45, 5, 46, 47, 48, 49, 50, 51, 7, 52, 53, 54, 55, 56, 57, 58, 59, 60, 61, 62, 63, 64, 65, 66, 67, 68, 69, 70, 71, 72, 73, 74, 75, 76, 77, 78, 79, 80, 130, 131, 132, 133, 134, 135, 136, 137, 138, 139, 140, 141, 142, 143, 144, 145, 146, 147, 148, 149, 150] (by decide +kernel) (by decide +kernel)
set_option maxRecDepth 20000 in
theorem gX3_withQuestions_X3_leastBlend : GoodIn wsX3_withQuestions (wsV RX3 151 RX3 yX3_leastBlend wsX3_leastBlend) := goodIn_app (goodIn_of _ (by decide +kernel)) ggX3_withQuestions_X3_leastBlend
set_option maxRecDepth 20000 in
theorem ggX3_withQuestions_X1_seated : GoodIn wsX3_withQuestions wsX1_seated := goodIn_r _ [84, 85, 86, 87, 88, 89, 90, 91, 47, 48, 49, 5, 50, 51, 7, 52, 53, 54, 55, 56, 31, 57, 34, 58, 59, 60, 61, 33, 62, 63, 64, 65, 66, 67, 68, 69, 70, 71, 72, 73, 74, 75, 76, 77, 78, 17, 18, 19, 20, 21, 22, 79, 11, 80, 92, 93, 94, 95, 96, 138, 139, 140, 141, 142, 143, 144, 145, 146, 147, 148, 149, 150] (by decide +kernel) (by decide +kernel)
set_option maxRecDepth 20000 in
theorem gX3_withQuestions_X1_seated : GoodIn wsX3_withQuestions (wsV RX3 145 RX1 yX1_seated wsX1_seated) := goodIn_app (goodIn_of _ (by decide +kernel)) ggX3_withQuestions_X1_seated
set_option maxRecDepth 20000 in
theorem ggX3_withQuestions_X3_with : GoodIn wsX3_withQuestions wsX3_with := goodIn_r _ [99, 100] (by decide +kernel) (by decide +kernel)
set_option maxRecDepth 20000 in
theorem gX3_withQuestions_X3_with : GoodIn wsX3_withQuestions (va_wsS RX3 215 yX3_with wsX3_with) := goodIn_app (goodIn_of _ (by decide +kernel)) ggX3_withQuestions_X3_with
set_option maxRecDepth 20000 in
theorem ggX3_withQuestions_X3_casksIn : GoodIn wsX3_withQuestions wsX3_casksIn := goodIn_r _ [103, 16, 17, 18, 19, 20, 21, 22] (by decide +kernel) (by decide +kernel)
set_option maxRecDepth 20000 in
theorem gX3_withQuestions_X3_casksIn : GoodIn wsX3_withQuestions (va_wsS RX3 154 yX3_casksIn wsX3_casksIn) := goodIn_app (goodIn_of _ (by decide +kernel)) ggX3_withQuestions_X3_casksIn
set_option maxRecDepth 20000 in
theorem ggX3_withQuestions_X1_possibleBirths : GoodIn wsX3_withQuestions wsX1_possibleBirths := goodIn_r _ [107, 108, 109, 87, 110, 111, 112, 113, 5, 114, 85, 115, 116, 117, 118, 51, 54, 55, 56, 31, 57, 34, 58, 59, 60, 61, 33, 62, 63, 64, 65, 66, 67, 68, 69, 70, 71, 72, 73, 74, 75, 76, 77, 78, 17, 18, 19, 20, 21, 22, 79, 11, 80, 138, 139, 140, 141, 142, 143, 144, 145, 146, 147, 148, 149, 150] (by decide +kernel) (by decide +kernel)
set_option maxRecDepth 20000 in
theorem gX3_withQuestions_X1_possibleBirths : GoodIn wsX3_withQuestions (wsV RX3 178 RX1 yX1_possibleBirths wsX1_possibleBirths) := goodIn_app (goodIn_of _ (by decide +kernel)) ggX3_withQuestions_X1_possibleBirths
set_option maxRecDepth 20000 in
theorem ggX3_withQuestions_X1_bestQuestion : GoodIn wsX3_withQuestions wsX1_bestQuestion := goodIn_r _ [122, 85, 87, 96, 123, 105, 106, 5, 107, 108, 109, 110, 111, 112, 113, 114, 115, 116, 117, 118, 51, 54, 55, 56, 31, 57, 34, 58, 59, 60, 61, 33, 62, 63, 64, 65, 66, 67, 68, 69, 70, 71, 72, 73, 74, 75, 76, 77, 78, 17, 18, 19, 20, 21, 22, 79, 11, 80, 124, 125, 126, 127, 128, 90, 129, 138, 139, 140, 141, 142, 143, 144, 145, 146, 147, 148, 149, 150] (by decide +kernel) (by decide +kernel)
set_option maxRecDepth 20000 in
theorem gX3_withQuestions_X1_bestQuestion : GoodIn wsX3_withQuestions (wsV RX3 181 RX1 yX1_bestQuestion wsX1_bestQuestion) := goodIn_app (goodIn_of _ (by decide +kernel)) ggX3_withQuestions_X1_bestQuestion
theorem dX3_withQuestions_0 : decode cX3_withQuestions 0 = .ok (.aload_n 0, 1) := by decide +kernel
theorem dX3_withQuestions_1 : decode cX3_withQuestions 1 = .ok (.getfield 19, 3) := by decide +kernel
theorem dX3_withQuestions_4 : decode cX3_withQuestions 4 = .ok (.invokevirtual 233, 3) := by decide +kernel
theorem dX3_withQuestions_7 : decode cX3_withQuestions 7 = .ok (.istore_n 3, 1) := by decide +kernel
theorem dX3_withQuestions_8 : decode cX3_withQuestions 8 = .ok (.aload_n 0, 1) := by decide +kernel
theorem dX3_withQuestions_9 : decode cX3_withQuestions 9 = .ok (.iload_n 3, 1) := by decide +kernel
theorem dX3_withQuestions_10 : decode cX3_withQuestions 10 = .ok (.iconst 5, 1) := by decide +kernel
theorem dX3_withQuestions_11 : decode cX3_withQuestions 11 = .ok (.invokevirtual 151, 3) := by decide +kernel
theorem dX3_withQuestions_14 : decode cX3_withQuestions 14 = .ok (.istore 4, 2) := by decide +kernel
theorem dX3_withQuestions_16 : decode cX3_withQuestions 16 = .ok (.lload_n 1, 1) := by decide +kernel
theorem dX3_withQuestions_17 : decode cX3_withQuestions 17 = .ok (.aload_n 0, 1) := by decide +kernel
theorem dX3_withQuestions_18 : decode cX3_withQuestions 18 = .ok (.getfield 19, 3) := by decide +kernel
theorem dX3_withQuestions_21 : decode cX3_withQuestions 21 = .ok (.iload_n 3, 1) := by decide +kernel
theorem dX3_withQuestions_22 : decode cX3_withQuestions 22 = .ok (.invokevirtual 145, 3) := by decide +kernel
theorem dX3_withQuestions_25 : decode cX3_withQuestions 25 = .ok (.invokestatic 215, 3) := by decide +kernel
theorem dX3_withQuestions_28 : decode cX3_withQuestions 28 = .ok (.lstore 5, 2) := by decide +kernel
theorem dX3_withQuestions_30 : decode cX3_withQuestions 30 = .ok (.lload 5, 2) := by decide +kernel
theorem dX3_withQuestions_32 : decode cX3_withQuestions 32 = .ok (.iload 4, 2) := by decide +kernel
theorem dX3_withQuestions_34 : decode cX3_withQuestions 34 = .ok (.invokestatic 154, 3) := by decide +kernel
theorem dX3_withQuestions_37 : decode cX3_withQuestions 37 = .ok (.invokestatic 215, 3) := by decide +kernel
theorem dX3_withQuestions_40 : decode cX3_withQuestions 40 = .ok (.lstore 5, 2) := by decide +kernel
theorem dX3_withQuestions_42 : decode cX3_withQuestions 42 = .ok (.lload 5, 2) := by decide +kernel
theorem dX3_withQuestions_44 : decode cX3_withQuestions 44 = .ok (.iload 4, 2) := by decide +kernel
theorem dX3_withQuestions_46 : decode cX3_withQuestions 46 = .ok (.invokestatic 215, 3) := by decide +kernel
theorem dX3_withQuestions_49 : decode cX3_withQuestions 49 = .ok (.lstore 5, 2) := by decide +kernel
theorem dX3_withQuestions_51 : decode cX3_withQuestions 51 = .ok (.iconst 0, 1) := by decide +kernel
theorem dX3_withQuestions_52 : decode cX3_withQuestions 52 = .ok (.istore 7, 2) := by decide +kernel
theorem dX3_withQuestions_54 : decode cX3_withQuestions 54 = .ok (.iload 7, 2) := by decide +kernel
theorem dX3_withQuestions_56 : decode cX3_withQuestions 56 = .ok (.iconst 5, 1) := by decide +kernel
theorem dX3_withQuestions_57 : decode cX3_withQuestions 57 = .ok (.if_icmp .ge 41, 3) := by decide +kernel
theorem dX3_withQuestions_60 : decode cX3_withQuestions 60 = .ok (.lload 5, 2) := by decide +kernel
theorem dX3_withQuestions_62 : decode cX3_withQuestions 62 = .ok (.aload_n 0, 1) := by decide +kernel
theorem dX3_withQuestions_63 : decode cX3_withQuestions 63 = .ok (.getfield 19, 3) := by decide +kernel
theorem dX3_withQuestions_66 : decode cX3_withQuestions 66 = .ok (.iload 7, 2) := by decide +kernel
theorem dX3_withQuestions_68 : decode cX3_withQuestions 68 = .ok (.invokevirtual 178, 3) := by decide +kernel
theorem dX3_withQuestions_71 : decode cX3_withQuestions 71 = .ok (.invokestatic 215, 3) := by decide +kernel
theorem dX3_withQuestions_74 : decode cX3_withQuestions 74 = .ok (.lstore 5, 2) := by decide +kernel
theorem dX3_withQuestions_76 : decode cX3_withQuestions 76 = .ok (.lload 5, 2) := by decide +kernel
theorem dX3_withQuestions_78 : decode cX3_withQuestions 78 = .ok (.aload_n 0, 1) := by decide +kernel
theorem dX3_withQuestions_79 : decode cX3_withQuestions 79 = .ok (.getfield 19, 3) := by decide +kernel
theorem dX3_withQuestions_82 : decode cX3_withQuestions 82 = .ok (.iload 7, 2) := by decide +kernel
theorem dX3_withQuestions_84 : decode cX3_withQuestions 84 = .ok (.invokevirtual 181, 3) := by decide +kernel
theorem dX3_withQuestions_87 : decode cX3_withQuestions 87 = .ok (.invokestatic 215, 3) := by decide +kernel
theorem dX3_withQuestions_90 : decode cX3_withQuestions 90 = .ok (.lstore 5, 2) := by decide +kernel
theorem dX3_withQuestions_92 : decode cX3_withQuestions 92 = .ok (.iinc 7 1, 3) := by decide +kernel
theorem dX3_withQuestions_95 : decode cX3_withQuestions 95 = .ok (.goto (-41), 3) := by decide +kernel
theorem dX3_withQuestions_98 : decode cX3_withQuestions 98 = .ok (.lload 5, 2) := by decide +kernel
theorem dX3_withQuestions_100 : decode cX3_withQuestions 100 = .ok (.lreturn, 1) := by decide +kernel
set_option maxRecDepth 20000 in
theorem ggX3_leastBlend_J6_bitCount_0f7a4 : GoodIn wsX3_leastBlend wsJ6_bitCount_0f7a4 := goodIn_r _ [8, 9, 10, 11] (by decide +kernel) (by decide +kernel)
set_option maxRecDepth 20000 in
theorem gX3_leastBlend_J6_bitCount_0f7a4 : GoodIn wsX3_leastBlend (va_wsS RX3 236 yJ6_bitCount_0f7a4 wsJ6_bitCount_0f7a4) := goodIn_app (goodIn_of _ (by decide +kernel)) ggX3_leastBlend_J6_bitCount_0f7a4
set_option maxRecDepth 20000 in
theorem ggX3_leastBlend_X3_mix : GoodIn wsX3_leastBlend wsX3_mix := goodIn_r _ [16, 3, 1, 2, 17, 4, 18, 19, 20, 21, 22, 23, 24, 25, 26, 27, 28, 29, 30, 31, 32, 73, 74, 75, 76, 77, 78, 79, 80, 81, 82, 83, 84, 85, 86, 87, 88, 89, 90, 91, 92, 93] (by decide +kernel) (by decide +kernel)
set_option maxRecDepth 20000 in
theorem gX3_leastBlend_X3_mix : GoodIn wsX3_leastBlend (wsV RX3 241 RX3 yX3_mix wsX3_mix) := goodIn_app (goodIn_of _ (by decide +kernel)) ggX3_leastBlend_X3_mix
set_option maxRecDepth 20000 in
theorem ggX3_leastBlend_X1_allMay : GoodIn wsX3_leastBlend wsX1_allMay := goodIn_r _ [37, 38, 39, 40, 36, 41, 42, 43, 44, 45, 46, 47, 48, 21, 49, 24, 50, 51, 52, 53, 23, 54, 55, 56, 57, 58, 59, 60, 61, 62, 63, 64, 65, 66, 67, 68, 69, 70, 6, 7, 8, 9, 10, 11, 71, 15, 72, 81, 82, 83, 84, 85, 86, 87, 88, 89, 90, 91, 92, 93] (by decide +kernel) (by decide +kernel)
set_option maxRecDepth 20000 in
theorem gX3_leastBlend_X1_allMay : GoodIn wsX3_leastBlend (wsV RX3 157 RX1 yX1_allMay wsX1_allMay) := goodIn_app (goodIn_of _ (by decide +kernel)) ggX3_leastBlend_X1_allMay
theorem dX3_leastBlend_0 : decode cX3_leastBlend 0 = .ok (.iconst (-1), 1) := by decide +kernel
theorem dX3_leastBlend_1 : decode cX3_leastBlend 1 = .ok (.istore_n 3, 1) := by decide +kernel
theorem dX3_leastBlend_2 : decode cX3_leastBlend 2 = .ok (.iconst 0, 1) := by decide +kernel
theorem dX3_leastBlend_3 : decode cX3_leastBlend 3 = .ok (.istore 4, 2) := by decide +kernel
theorem dX3_leastBlend_5 : decode cX3_leastBlend 5 = .ok (.iload 4, 2) := by decide +kernel
theorem dX3_leastBlend_7 : decode cX3_leastBlend 7 = .ok (.iconst 1, 1) := by decide +kernel
theorem dX3_leastBlend_8 : decode cX3_leastBlend 8 = .ok (.aload_n 0, 1) := by decide +kernel
theorem dX3_leastBlend_9 : decode cX3_leastBlend 9 = .ok (.getfield 19, 3) := by decide +kernel
theorem dX3_leastBlend_12 : decode cX3_leastBlend 12 = .ok (.getfield 161, 3) := by decide +kernel
theorem dX3_leastBlend_15 : decode cX3_leastBlend 15 = .ok (.ishl, 1) := by decide +kernel
theorem dX3_leastBlend_16 : decode cX3_leastBlend 16 = .ok (.if_icmp .ge 76, 3) := by decide +kernel
theorem dX3_leastBlend_19 : decode cX3_leastBlend 19 = .ok (.iload_n 3, 1) := by decide +kernel
theorem dX3_leastBlend_20 : decode cX3_leastBlend 20 = .ok (.iconst (-1), 1) := by decide +kernel
theorem dX3_leastBlend_21 : decode cX3_leastBlend 21 = .ok (.if_icmp .eq 15, 3) := by decide +kernel
theorem dX3_leastBlend_24 : decode cX3_leastBlend 24 = .ok (.iload 4, 2) := by decide +kernel
theorem dX3_leastBlend_26 : decode cX3_leastBlend 26 = .ok (.invokestatic 236, 3) := by decide +kernel
theorem dX3_leastBlend_29 : decode cX3_leastBlend 29 = .ok (.iload_n 3, 1) := by decide +kernel
theorem dX3_leastBlend_30 : decode cX3_leastBlend 30 = .ok (.invokestatic 236, 3) := by decide +kernel
theorem dX3_leastBlend_33 : decode cX3_leastBlend 33 = .ok (.if_icmp .ge 7, 3) := by decide +kernel
theorem dX3_leastBlend_36 : decode cX3_leastBlend 36 = .ok (.iconst 1, 1) := by decide +kernel
theorem dX3_leastBlend_37 : decode cX3_leastBlend 37 = .ok (.goto 4, 3) := by decide +kernel
theorem dX3_leastBlend_40 : decode cX3_leastBlend 40 = .ok (.iconst 0, 1) := by decide +kernel
theorem dX3_leastBlend_41 : decode cX3_leastBlend 41 = .ok (.istore 5, 2) := by decide +kernel
theorem dX3_leastBlend_43 : decode cX3_leastBlend 43 = .ok (.iload 5, 2) := by decide +kernel
theorem dX3_leastBlend_45 : decode cX3_leastBlend 45 = .ok (.ifCond .eq 41, 3) := by decide +kernel
theorem dX3_leastBlend_48 : decode cX3_leastBlend 48 = .ok (.aload_n 0, 1) := by decide +kernel
theorem dX3_leastBlend_49 : decode cX3_leastBlend 49 = .ok (.iload 4, 2) := by decide +kernel
theorem dX3_leastBlend_51 : decode cX3_leastBlend 51 = .ok (.invokevirtual 241, 3) := by decide +kernel
theorem dX3_leastBlend_54 : decode cX3_leastBlend 54 = .ok (.ifCond .eq 32, 3) := by decide +kernel
theorem dX3_leastBlend_57 : decode cX3_leastBlend 57 = .ok (.aload_n 0, 1) := by decide +kernel
theorem dX3_leastBlend_58 : decode cX3_leastBlend 58 = .ok (.getfield 32, 3) := by decide +kernel
theorem dX3_leastBlend_61 : decode cX3_leastBlend 61 = .ok (.getfield 80, 3) := by decide +kernel
theorem dX3_leastBlend_64 : decode cX3_leastBlend 64 = .ok (.iload_n 2, 1) := by decide +kernel
theorem dX3_leastBlend_65 : decode cX3_leastBlend 65 = .ok (.if_icmp .lt 21, 3) := by decide +kernel
theorem dX3_leastBlend_68 : decode cX3_leastBlend 68 = .ok (.aload_n 0, 1) := by decide +kernel
theorem dX3_leastBlend_69 : decode cX3_leastBlend 69 = .ok (.getfield 19, 3) := by decide +kernel
theorem dX3_leastBlend_72 : decode cX3_leastBlend 72 = .ok (.iload_n 1, 1) := by decide +kernel
theorem dX3_leastBlend_73 : decode cX3_leastBlend 73 = .ok (.aload_n 0, 1) := by decide +kernel
theorem dX3_leastBlend_74 : decode cX3_leastBlend 74 = .ok (.getfield 32, 3) := by decide +kernel
theorem dX3_leastBlend_77 : decode cX3_leastBlend 77 = .ok (.invokevirtual 157, 3) := by decide +kernel
theorem dX3_leastBlend_80 : decode cX3_leastBlend 80 = .ok (.ifCond .eq 6, 3) := by decide +kernel
theorem dX3_leastBlend_83 : decode cX3_leastBlend 83 = .ok (.iload 4, 2) := by decide +kernel
theorem dX3_leastBlend_85 : decode cX3_leastBlend 85 = .ok (.istore_n 3, 1) := by decide +kernel
theorem dX3_leastBlend_86 : decode cX3_leastBlend 86 = .ok (.iinc 4 1, 3) := by decide +kernel
theorem dX3_leastBlend_89 : decode cX3_leastBlend 89 = .ok (.goto (-84), 3) := by decide +kernel
theorem dX3_leastBlend_92 : decode cX3_leastBlend 92 = .ok (.iload_n 3, 1) := by decide +kernel
theorem dX3_leastBlend_93 : decode cX3_leastBlend 93 = .ok (.ireturn, 1) := by decide +kernel
set_option maxRecDepth 20000 in
theorem ggX3_casksIn_J6_bitCount_0f7a4 : GoodIn wsX3_casksIn wsJ6_bitCount_0f7a4 := goodIn_r _ [4, 5, 6, 7] (by decide +kernel) (by decide +kernel)
set_option maxRecDepth 20000 in
theorem gX3_casksIn_J6_bitCount_0f7a4 : GoodIn wsX3_casksIn (va_wsS RX3 236 yJ6_bitCount_0f7a4 wsJ6_bitCount_0f7a4) := goodIn_app (goodIn_of _ (by decide +kernel)) ggX3_casksIn_J6_bitCount_0f7a4
theorem dX3_casksIn_0 : decode cX3_casksIn 0 = .ok (.iload_n 0, 1) := by decide +kernel
theorem dX3_casksIn_1 : decode cX3_casksIn 1 = .ok (.iconst (-1), 1) := by decide +kernel
theorem dX3_casksIn_2 : decode cX3_casksIn 2 = .ok (.if_icmp .ne 7, 3) := by decide +kernel
theorem dX3_casksIn_5 : decode cX3_casksIn 5 = .ok (.iconst (-1), 1) := by decide +kernel
theorem dX3_casksIn_6 : decode cX3_casksIn 6 = .ok (.goto 7, 3) := by decide +kernel
theorem dX3_casksIn_9 : decode cX3_casksIn 9 = .ok (.iload_n 0, 1) := by decide +kernel
theorem dX3_casksIn_10 : decode cX3_casksIn 10 = .ok (.invokestatic 236, 3) := by decide +kernel
theorem dX3_casksIn_13 : decode cX3_casksIn 13 = .ok (.ireturn, 1) := by decide +kernel
set_option maxRecDepth 20000 in
theorem ggX3_mix_X0_drain : GoodIn wsX3_mix wsX0_drain := goodIn_r _ [10, 11, 12, 40, 41] (by decide +kernel) (by decide +kernel)
set_option maxRecDepth 20000 in
theorem gX3_mix_X0_drain : GoodIn wsX3_mix (wsV RX3 244 RX0 yX0_drain wsX0_drain) := goodIn_app (goodIn_of _ (by decide +kernel)) ggX3_mix_X0_drain
set_option maxRecDepth 20000 in
theorem ggX3_mix_X0_putAllOf : GoodIn wsX3_mix wsX0_putAllOf := goodIn_r _ [16, 11, 17, 18, 19, 9, 20, 12, 40, 41] (by decide +kernel) (by decide +kernel)
set_option maxRecDepth 20000 in
theorem gX3_mix_X0_putAllOf : GoodIn wsX3_mix (wsV RX3 247 RX0 yX0_putAllOf wsX0_putAllOf) := goodIn_app (goodIn_of _ (by decide +kernel)) ggX3_mix_X0_putAllOf
theorem dX3_mix_0 : decode cX3_mix 0 = .ok (.aload_n 0, 1) := by decide +kernel
theorem dX3_mix_1 : decode cX3_mix 1 = .ok (.getfield 32, 3) := by decide +kernel
theorem dX3_mix_4 : decode cX3_mix 4 = .ok (.invokevirtual 244, 3) := by decide +kernel
theorem dX3_mix_7 : decode cX3_mix 7 = .ok (.iconst 0, 1) := by decide +kernel
theorem dX3_mix_8 : decode cX3_mix 8 = .ok (.istore_n 2, 1) := by decide +kernel
theorem dX3_mix_9 : decode cX3_mix 9 = .ok (.iload_n 2, 1) := by decide +kernel
theorem dX3_mix_10 : decode cX3_mix 10 = .ok (.aload_n 0, 1) := by decide +kernel
theorem dX3_mix_11 : decode cX3_mix 11 = .ok (.getfield 19, 3) := by decide +kernel
theorem dX3_mix_14 : decode cX3_mix 14 = .ok (.getfield 161, 3) := by decide +kernel
theorem dX3_mix_17 : decode cX3_mix 17 = .ok (.if_icmp .ge 50, 3) := by decide +kernel
theorem dX3_mix_20 : decode cX3_mix 20 = .ok (.iload_n 1, 1) := by decide +kernel
theorem dX3_mix_21 : decode cX3_mix 21 = .ok (.iconst 1, 1) := by decide +kernel
theorem dX3_mix_22 : decode cX3_mix 22 = .ok (.iload_n 2, 1) := by decide +kernel
theorem dX3_mix_23 : decode cX3_mix 23 = .ok (.ishl, 1) := by decide +kernel
theorem dX3_mix_24 : decode cX3_mix 24 = .ok (.iand, 1) := by decide +kernel
theorem dX3_mix_25 : decode cX3_mix 25 = .ok (.ifCond .eq 36, 3) := by decide +kernel
theorem dX3_mix_28 : decode cX3_mix 28 = .ok (.aload_n 0, 1) := by decide +kernel
theorem dX3_mix_29 : decode cX3_mix 29 = .ok (.getfield 19, 3) := by decide +kernel
theorem dX3_mix_32 : decode cX3_mix 32 = .ok (.getfield 72, 3) := by decide +kernel
theorem dX3_mix_35 : decode cX3_mix 35 = .ok (.iload_n 2, 1) := by decide +kernel
theorem dX3_mix_36 : decode cX3_mix 36 = .ok (.aaload, 1) := by decide +kernel
theorem dX3_mix_37 : decode cX3_mix 37 = .ok (.getfield 80, 3) := by decide +kernel
theorem dX3_mix_40 : decode cX3_mix 40 = .ok (.ifCond .ne 5, 3) := by decide +kernel
theorem dX3_mix_43 : decode cX3_mix 43 = .ok (.iconst 0, 1) := by decide +kernel
theorem dX3_mix_44 : decode cX3_mix 44 = .ok (.ireturn, 1) := by decide +kernel
theorem dX3_mix_45 : decode cX3_mix 45 = .ok (.aload_n 0, 1) := by decide +kernel
theorem dX3_mix_46 : decode cX3_mix 46 = .ok (.getfield 32, 3) := by decide +kernel
theorem dX3_mix_49 : decode cX3_mix 49 = .ok (.aload_n 0, 1) := by decide +kernel
theorem dX3_mix_50 : decode cX3_mix 50 = .ok (.getfield 19, 3) := by decide +kernel
theorem dX3_mix_53 : decode cX3_mix 53 = .ok (.getfield 72, 3) := by decide +kernel
theorem dX3_mix_56 : decode cX3_mix 56 = .ok (.iload_n 2, 1) := by decide +kernel
theorem dX3_mix_57 : decode cX3_mix 57 = .ok (.aaload, 1) := by decide +kernel
theorem dX3_mix_58 : decode cX3_mix 58 = .ok (.invokevirtual 247, 3) := by decide +kernel
theorem dX3_mix_61 : decode cX3_mix 61 = .ok (.iinc 2 1, 3) := by decide +kernel
theorem dX3_mix_64 : decode cX3_mix 64 = .ok (.goto (-55), 3) := by decide +kernel
theorem dX3_mix_67 : decode cX3_mix 67 = .ok (.iconst 1, 1) := by decide +kernel
theorem dX3_mix_68 : decode cX3_mix 68 = .ok (.ireturn, 1) := by decide +kernel
set_option maxRecDepth 20000 in
theorem ggX3_litresToTop_X0_become : GoodIn wsX3_litresToTop wsX0_become := goodIn_r _ [14, 15, 16, 17, 13, 18, 19, 20, 21, 22, 23, 24, 25, 26, 27, 28, 104, 105] (by decide +kernel) (by decide +kernel)
set_option maxRecDepth 20000 in
theorem gX3_litresToTop_X0_become : GoodIn wsX3_litresToTop (wsV RX3 251 RX0 yX0_become wsX0_become) := goodIn_app (goodIn_of _ (by decide +kernel)) ggX3_litresToTop_X0_become
set_option maxRecDepth 20000 in
theorem ggX3_litresToTop_X0_room : GoodIn wsX3_litresToTop wsX0_room := goodIn_r _ [32, 20, 104, 105] (by decide +kernel) (by decide +kernel)
set_option maxRecDepth 20000 in
theorem gX3_litresToTop_X0_room : GoodIn wsX3_litresToTop (wsV RX3 132 RX0 yX0_room wsX0_room) := goodIn_app (goodIn_of _ (by decide +kernel)) ggX3_litresToTop_X0_room
set_option maxRecDepth 20000 in
theorem ggX3_litresToTop_X0_takeLatest : GoodIn wsX3_litresToTop wsX0_takeLatest := goodIn_r _ [36, 37, 38, 39, 13, 40, 19, 25, 26, 27, 28, 20, 104, 105] (by decide +kernel) (by decide +kernel)
set_option maxRecDepth 20000 in
theorem gX3_litresToTop_X0_takeLatest : GoodIn wsX3_litresToTop (wsV RX3 135 RX0 yX0_takeLatest wsX0_takeLatest) := goodIn_app (goodIn_of _ (by decide +kernel)) ggX3_litresToTop_X0_takeLatest
set_option maxRecDepth 20000 in
theorem ggX3_litresToTop_X0_put : GoodIn wsX3_litresToTop wsX0_put := goodIn_r _ [28, 19, 20, 104, 105] (by decide +kernel) (by decide +kernel)
set_option maxRecDepth 20000 in
theorem gX3_litresToTop_X0_put : GoodIn wsX3_litresToTop (wsV RX3 138 RX0 yX0_put wsX0_put) := goodIn_app (goodIn_of _ (by decide +kernel)) ggX3_litresToTop_X0_put
set_option maxRecDepth 20000 in
theorem ggX3_litresToTop_X1_allMay : GoodIn wsX3_litresToTop wsX1_allMay := goodIn_r _ [46, 47, 48, 49, 45, 50, 51, 52, 53, 54, 55, 56, 57, 13, 58, 20, 37, 38, 39, 40, 19, 59, 60, 61, 62, 63, 64, 65, 66, 67, 68, 69, 70, 71, 72, 73, 74, 75, 76, 77, 78, 79, 80, 81, 82, 83, 84, 93, 94, 95, 96, 97, 98, 99, 100, 101, 102, 103, 104, 105] (by decide +kernel) (by decide +kernel)
set_option maxRecDepth 20000 in
theorem gX3_litresToTop_X1_allMay : GoodIn wsX3_litresToTop (wsV RX3 157 RX1 yX1_allMay wsX1_allMay) := goodIn_app (goodIn_of _ (by decide +kernel)) ggX3_litresToTop_X1_allMay
theorem dX3_litresToTop_0 : decode cX3_litresToTop 0 = .ok (.aload_n 0, 1) := by decide +kernel
theorem dX3_litresToTop_1 : decode cX3_litresToTop 1 = .ok (.getfield 32, 3) := by decide +kernel
theorem dX3_litresToTop_4 : decode cX3_litresToTop 4 = .ok (.aload_n 0, 1) := by decide +kernel
theorem dX3_litresToTop_5 : decode cX3_litresToTop 5 = .ok (.getfield 19, 3) := by decide +kernel
theorem dX3_litresToTop_8 : decode cX3_litresToTop 8 = .ok (.getfield 72, 3) := by decide +kernel
theorem dX3_litresToTop_11 : decode cX3_litresToTop 11 = .ok (.iload_n 2, 1) := by decide +kernel
theorem dX3_litresToTop_12 : decode cX3_litresToTop 12 = .ok (.aaload, 1) := by decide +kernel
theorem dX3_litresToTop_13 : decode cX3_litresToTop 13 = .ok (.invokevirtual 251, 3) := by decide +kernel
theorem dX3_litresToTop_16 : decode cX3_litresToTop 16 = .ok (.aload_n 0, 1) := by decide +kernel
theorem dX3_litresToTop_17 : decode cX3_litresToTop 17 = .ok (.getfield 36, 3) := by decide +kernel
theorem dX3_litresToTop_20 : decode cX3_litresToTop 20 = .ok (.aload_n 0, 1) := by decide +kernel
theorem dX3_litresToTop_21 : decode cX3_litresToTop 21 = .ok (.getfield 19, 3) := by decide +kernel
theorem dX3_litresToTop_24 : decode cX3_litresToTop 24 = .ok (.getfield 72, 3) := by decide +kernel
theorem dX3_litresToTop_27 : decode cX3_litresToTop 27 = .ok (.iload_n 3, 1) := by decide +kernel
theorem dX3_litresToTop_28 : decode cX3_litresToTop 28 = .ok (.aaload, 1) := by decide +kernel
theorem dX3_litresToTop_29 : decode cX3_litresToTop 29 = .ok (.invokevirtual 251, 3) := by decide +kernel
theorem dX3_litresToTop_32 : decode cX3_litresToTop 32 = .ok (.aload_n 0, 1) := by decide +kernel
theorem dX3_litresToTop_33 : decode cX3_litresToTop 33 = .ok (.getfield 36, 3) := by decide +kernel
theorem dX3_litresToTop_36 : decode cX3_litresToTop 36 = .ok (.getfield 80, 3) := by decide +kernel
theorem dX3_litresToTop_39 : decode cX3_litresToTop 39 = .ok (.aload_n 0, 1) := by decide +kernel
theorem dX3_litresToTop_40 : decode cX3_litresToTop 40 = .ok (.getfield 32, 3) := by decide +kernel
theorem dX3_litresToTop_43 : decode cX3_litresToTop 43 = .ok (.invokevirtual 132, 3) := by decide +kernel
theorem dX3_litresToTop_46 : decode cX3_litresToTop 46 = .ok (.invokestatic 253, 3) := by decide +kernel
theorem dX3_litresToTop_49 : decode cX3_litresToTop 49 = .ok (.istore 4, 2) := by decide +kernel
theorem dX3_litresToTop_51 : decode cX3_litresToTop 51 = .ok (.iconst 1, 1) := by decide +kernel
theorem dX3_litresToTop_52 : decode cX3_litresToTop 52 = .ok (.istore 5, 2) := by decide +kernel
theorem dX3_litresToTop_54 : decode cX3_litresToTop 54 = .ok (.iload 5, 2) := by decide +kernel
theorem dX3_litresToTop_56 : decode cX3_litresToTop 56 = .ok (.iload 4, 2) := by decide +kernel
theorem dX3_litresToTop_58 : decode cX3_litresToTop 58 = .ok (.if_icmp .gt 42, 3) := by decide +kernel
theorem dX3_litresToTop_61 : decode cX3_litresToTop 61 = .ok (.aload_n 0, 1) := by decide +kernel
theorem dX3_litresToTop_62 : decode cX3_litresToTop 62 = .ok (.getfield 32, 3) := by decide +kernel
theorem dX3_litresToTop_65 : decode cX3_litresToTop 65 = .ok (.aload_n 0, 1) := by decide +kernel
theorem dX3_litresToTop_66 : decode cX3_litresToTop 66 = .ok (.getfield 36, 3) := by decide +kernel
theorem dX3_litresToTop_69 : decode cX3_litresToTop 69 = .ok (.invokevirtual 135, 3) := by decide +kernel
theorem dX3_litresToTop_72 : decode cX3_litresToTop 72 = .ok (.iconst 1, 1) := by decide +kernel
theorem dX3_litresToTop_73 : decode cX3_litresToTop 73 = .ok (.invokevirtual 138, 3) := by decide +kernel
theorem dX3_litresToTop_76 : decode cX3_litresToTop 76 = .ok (.aload_n 0, 1) := by decide +kernel
theorem dX3_litresToTop_77 : decode cX3_litresToTop 77 = .ok (.getfield 19, 3) := by decide +kernel
theorem dX3_litresToTop_80 : decode cX3_litresToTop 80 = .ok (.iload_n 1, 1) := by decide +kernel
theorem dX3_litresToTop_81 : decode cX3_litresToTop 81 = .ok (.aload_n 0, 1) := by decide +kernel
theorem dX3_litresToTop_82 : decode cX3_litresToTop 82 = .ok (.getfield 32, 3) := by decide +kernel
theorem dX3_litresToTop_85 : decode cX3_litresToTop 85 = .ok (.invokevirtual 157, 3) := by decide +kernel
theorem dX3_litresToTop_88 : decode cX3_litresToTop 88 = .ok (.ifCond .eq 6, 3) := by decide +kernel
theorem dX3_litresToTop_91 : decode cX3_litresToTop 91 = .ok (.iload 5, 2) := by decide +kernel
theorem dX3_litresToTop_93 : decode cX3_litresToTop 93 = .ok (.ireturn, 1) := by decide +kernel
theorem dX3_litresToTop_94 : decode cX3_litresToTop 94 = .ok (.iinc 5 1, 3) := by decide +kernel
theorem dX3_litresToTop_97 : decode cX3_litresToTop 97 = .ok (.goto (-43), 3) := by decide +kernel
theorem dX3_litresToTop_100 : decode cX3_litresToTop 100 = .ok (.iconst (-1), 1) := by decide +kernel
theorem dX3_litresToTop_101 : decode cX3_litresToTop 101 = .ok (.ireturn, 1) := by decide +kernel
set_option maxRecDepth 20000 in
theorem ggX3_canPourOne_X0_room : GoodIn wsX3_canPourOne wsX0_room := goodIn_r _ [8, 9, 29, 30] (by decide +kernel) (by decide +kernel)
set_option maxRecDepth 20000 in
theorem gX3_canPourOne_X0_room : GoodIn wsX3_canPourOne (wsV RX3 132 RX0 yX0_room wsX0_room) := goodIn_app (goodIn_of _ (by decide +kernel)) ggX3_canPourOne_X0_room
theorem dX3_canPourOne_0 : decode cX3_canPourOne 0 = .ok (.iload_n 1, 1) := by decide +kernel
theorem dX3_canPourOne_1 : decode cX3_canPourOne 1 = .ok (.iload_n 2, 1) := by decide +kernel
theorem dX3_canPourOne_2 : decode cX3_canPourOne 2 = .ok (.if_icmp .eq 37, 3) := by decide +kernel
theorem dX3_canPourOne_5 : decode cX3_canPourOne 5 = .ok (.aload_n 0, 1) := by decide +kernel
theorem dX3_canPourOne_6 : decode cX3_canPourOne 6 = .ok (.getfield 19, 3) := by decide +kernel
theorem dX3_canPourOne_9 : decode cX3_canPourOne 9 = .ok (.getfield 72, 3) := by decide +kernel
theorem dX3_canPourOne_12 : decode cX3_canPourOne 12 = .ok (.iload_n 1, 1) := by decide +kernel
theorem dX3_canPourOne_13 : decode cX3_canPourOne 13 = .ok (.aaload, 1) := by decide +kernel
theorem dX3_canPourOne_14 : decode cX3_canPourOne 14 = .ok (.getfield 80, 3) := by decide +kernel
theorem dX3_canPourOne_17 : decode cX3_canPourOne 17 = .ok (.ifCond .le 22, 3) := by decide +kernel
theorem dX3_canPourOne_20 : decode cX3_canPourOne 20 = .ok (.aload_n 0, 1) := by decide +kernel
theorem dX3_canPourOne_21 : decode cX3_canPourOne 21 = .ok (.getfield 19, 3) := by decide +kernel
theorem dX3_canPourOne_24 : decode cX3_canPourOne 24 = .ok (.getfield 72, 3) := by decide +kernel
theorem dX3_canPourOne_27 : decode cX3_canPourOne 27 = .ok (.iload_n 2, 1) := by decide +kernel
theorem dX3_canPourOne_28 : decode cX3_canPourOne 28 = .ok (.aaload, 1) := by decide +kernel
theorem dX3_canPourOne_29 : decode cX3_canPourOne 29 = .ok (.invokevirtual 132, 3) := by decide +kernel
theorem dX3_canPourOne_32 : decode cX3_canPourOne 32 = .ok (.ifCond .le 7, 3) := by decide +kernel
theorem dX3_canPourOne_35 : decode cX3_canPourOne 35 = .ok (.iconst 1, 1) := by decide +kernel
theorem dX3_canPourOne_36 : decode cX3_canPourOne 36 = .ok (.goto 4, 3) := by decide +kernel
theorem dX3_canPourOne_39 : decode cX3_canPourOne 39 = .ok (.iconst 0, 1) := by decide +kernel
theorem dX3_canPourOne_40 : decode cX3_canPourOne 40 = .ok (.ireturn, 1) := by decide +kernel
set_option maxRecDepth 20000 in
theorem ggX3_whoMayAfter_X0_become : GoodIn wsX3_whoMayAfter wsX0_become := goodIn_r _ [8, 9, 10, 11, 7, 12, 13, 14, 15, 16, 17, 18, 19, 20, 21, 22, 91, 92] (by decide +kernel) (by decide +kernel)
set_option maxRecDepth 20000 in
theorem gX3_whoMayAfter_X0_become : GoodIn wsX3_whoMayAfter (wsV RX3 251 RX0 yX0_become wsX0_become) := goodIn_app (goodIn_of _ (by decide +kernel)) ggX3_whoMayAfter_X0_become
set_option maxRecDepth 20000 in
theorem ggX3_whoMayAfter_X0_takeLatest : GoodIn wsX3_whoMayAfter wsX0_takeLatest := goodIn_r _ [26, 27, 28, 29, 7, 30, 13, 19, 20, 21, 22, 14, 91, 92] (by decide +kernel) (by decide +kernel)
set_option maxRecDepth 20000 in
theorem gX3_whoMayAfter_X0_takeLatest : GoodIn wsX3_whoMayAfter (wsV RX3 135 RX0 yX0_takeLatest wsX0_takeLatest) := goodIn_app (goodIn_of _ (by decide +kernel)) ggX3_whoMayAfter_X0_takeLatest
set_option maxRecDepth 20000 in
theorem ggX3_whoMayAfter_X0_latestYear : GoodIn wsX3_whoMayAfter wsX0_latestYear := goodIn_r _ [30, 13, 91, 92] (by decide +kernel) (by decide +kernel)
set_option maxRecDepth 20000 in
theorem gX3_whoMayAfter_X0_latestYear : GoodIn wsX3_whoMayAfter (wsV RX3 258 RX0 yX0_latestYear wsX0_latestYear) := goodIn_app (goodIn_of _ (by decide +kernel)) ggX3_whoMayAfter_X0_latestYear
set_option maxRecDepth 20000 in
theorem ggX3_whoMayAfter_X0_put : GoodIn wsX3_whoMayAfter wsX0_put := goodIn_r _ [22, 13, 14, 91, 92] (by decide +kernel) (by decide +kernel)
set_option maxRecDepth 20000 in
theorem gX3_whoMayAfter_X0_put : GoodIn wsX3_whoMayAfter (wsV RX3 138 RX0 yX0_put wsX0_put) := goodIn_app (goodIn_of _ (by decide +kernel)) ggX3_whoMayAfter_X0_put
set_option maxRecDepth 20000 in
theorem ggX3_whoMayAfter_X1_whoMay : GoodIn wsX3_whoMayAfter wsX1_whoMay := goodIn_r _ [37, 38, 39, 40, 41, 42, 43, 44, 7, 45, 14, 27, 28, 29, 30, 13, 46, 47, 48, 49, 50, 51, 52, 53, 54, 55, 56, 57, 58, 59, 60, 61, 62, 63, 64, 65, 66, 67, 68, 69, 70, 71, 80, 81, 82, 83, 84, 85, 86, 87, 88, 89, 90, 91, 92] (by decide +kernel) (by decide +kernel)
set_option maxRecDepth 20000 in
theorem gX3_whoMayAfter_X1_whoMay : GoodIn wsX3_whoMayAfter (wsV RX3 89 RX1 yX1_whoMay wsX1_whoMay) := goodIn_app (goodIn_of _ (by decide +kernel)) ggX3_whoMayAfter_X1_whoMay
theorem dX3_whoMayAfter_0 : decode cX3_whoMayAfter 0 = .ok (.aload_n 0, 1) := by decide +kernel
theorem dX3_whoMayAfter_1 : decode cX3_whoMayAfter 1 = .ok (.getfield 32, 3) := by decide +kernel
theorem dX3_whoMayAfter_4 : decode cX3_whoMayAfter 4 = .ok (.aload_n 0, 1) := by decide +kernel
theorem dX3_whoMayAfter_5 : decode cX3_whoMayAfter 5 = .ok (.getfield 19, 3) := by decide +kernel
theorem dX3_whoMayAfter_8 : decode cX3_whoMayAfter 8 = .ok (.getfield 72, 3) := by decide +kernel
theorem dX3_whoMayAfter_11 : decode cX3_whoMayAfter 11 = .ok (.iload_n 1, 1) := by decide +kernel
theorem dX3_whoMayAfter_12 : decode cX3_whoMayAfter 12 = .ok (.aaload, 1) := by decide +kernel
theorem dX3_whoMayAfter_13 : decode cX3_whoMayAfter 13 = .ok (.invokevirtual 251, 3) := by decide +kernel
theorem dX3_whoMayAfter_16 : decode cX3_whoMayAfter 16 = .ok (.iload_n 2, 1) := by decide +kernel
theorem dX3_whoMayAfter_17 : decode cX3_whoMayAfter 17 = .ok (.iload_n 1, 1) := by decide +kernel
theorem dX3_whoMayAfter_18 : decode cX3_whoMayAfter 18 = .ok (.if_icmp .ne 11, 3) := by decide +kernel
theorem dX3_whoMayAfter_21 : decode cX3_whoMayAfter 21 = .ok (.aload_n 0, 1) := by decide +kernel
theorem dX3_whoMayAfter_22 : decode cX3_whoMayAfter 22 = .ok (.getfield 32, 3) := by decide +kernel
theorem dX3_whoMayAfter_25 : decode cX3_whoMayAfter 25 = .ok (.invokevirtual 135, 3) := by decide +kernel
theorem dX3_whoMayAfter_28 : decode cX3_whoMayAfter 28 = .ok (.pop, 1) := by decide +kernel
theorem dX3_whoMayAfter_29 : decode cX3_whoMayAfter 29 = .ok (.iload_n 3, 1) := by decide +kernel
theorem dX3_whoMayAfter_30 : decode cX3_whoMayAfter 30 = .ok (.iload_n 1, 1) := by decide +kernel
theorem dX3_whoMayAfter_31 : decode cX3_whoMayAfter 31 = .ok (.if_icmp .ne 23, 3) := by decide +kernel
theorem dX3_whoMayAfter_34 : decode cX3_whoMayAfter 34 = .ok (.aload_n 0, 1) := by decide +kernel
theorem dX3_whoMayAfter_35 : decode cX3_whoMayAfter 35 = .ok (.getfield 32, 3) := by decide +kernel
theorem dX3_whoMayAfter_38 : decode cX3_whoMayAfter 38 = .ok (.aload_n 0, 1) := by decide +kernel
theorem dX3_whoMayAfter_39 : decode cX3_whoMayAfter 39 = .ok (.getfield 19, 3) := by decide +kernel
theorem dX3_whoMayAfter_42 : decode cX3_whoMayAfter 42 = .ok (.getfield 72, 3) := by decide +kernel
theorem dX3_whoMayAfter_45 : decode cX3_whoMayAfter 45 = .ok (.iload_n 2, 1) := by decide +kernel
theorem dX3_whoMayAfter_46 : decode cX3_whoMayAfter 46 = .ok (.aaload, 1) := by decide +kernel
theorem dX3_whoMayAfter_47 : decode cX3_whoMayAfter 47 = .ok (.invokevirtual 258, 3) := by decide +kernel
theorem dX3_whoMayAfter_50 : decode cX3_whoMayAfter 50 = .ok (.iconst 1, 1) := by decide +kernel
theorem dX3_whoMayAfter_51 : decode cX3_whoMayAfter 51 = .ok (.invokevirtual 138, 3) := by decide +kernel
theorem dX3_whoMayAfter_54 : decode cX3_whoMayAfter 54 = .ok (.aload_n 0, 1) := by decide +kernel
theorem dX3_whoMayAfter_55 : decode cX3_whoMayAfter 55 = .ok (.getfield 19, 3) := by decide +kernel
theorem dX3_whoMayAfter_58 : decode cX3_whoMayAfter 58 = .ok (.aload_n 0, 1) := by decide +kernel
theorem dX3_whoMayAfter_59 : decode cX3_whoMayAfter 59 = .ok (.getfield 32, 3) := by decide +kernel
theorem dX3_whoMayAfter_62 : decode cX3_whoMayAfter 62 = .ok (.invokevirtual 89, 3) := by decide +kernel
theorem dX3_whoMayAfter_65 : decode cX3_whoMayAfter 65 = .ok (.ireturn, 1) := by decide +kernel
theorem dX3_nextSeed_0 : decode cX3_nextSeed 0 = .ok (.ldc2_w 261, 3) := by decide +kernel
theorem dX3_nextSeed_3 : decode cX3_nextSeed 3 = .ok (.iload_n 0, 1) := by decide +kernel
theorem dX3_nextSeed_4 : decode cX3_nextSeed 4 = .ok (.i2l, 1) := by decide +kernel
theorem dX3_nextSeed_5 : decode cX3_nextSeed 5 = .ok (.lmul, 1) := by decide +kernel
theorem dX3_nextSeed_6 : decode cX3_nextSeed 6 = .ok (.ldc2_w 263, 3) := by decide +kernel
theorem dX3_nextSeed_9 : decode cX3_nextSeed 9 = .ok (.ladd, 1) := by decide +kernel
theorem dX3_nextSeed_10 : decode cX3_nextSeed 10 = .ok (.ldc2_w 265, 3) := by decide +kernel
theorem dX3_nextSeed_13 : decode cX3_nextSeed 13 = .ok (.land, 1) := by decide +kernel
theorem dX3_nextSeed_14 : decode cX3_nextSeed 14 = .ok (.l2i, 1) := by decide +kernel
theorem dX3_nextSeed_15 : decode cX3_nextSeed 15 = .ok (.ireturn, 1) := by decide +kernel
theorem dX3_draw_0 : decode cX3_draw 0 = .ok (.iload_n 1, 1) := by decide +kernel
theorem dX3_draw_1 : decode cX3_draw 1 = .ok (.ifCond .gt 7, 3) := by decide +kernel
theorem dX3_draw_4 : decode cX3_draw 4 = .ok (.iconst 0, 1) := by decide +kernel
theorem dX3_draw_5 : decode cX3_draw 5 = .ok (.goto 10, 3) := by decide +kernel
theorem dX3_draw_8 : decode cX3_draw 8 = .ok (.iload_n 0, 1) := by decide +kernel
theorem dX3_draw_9 : decode cX3_draw 9 = .ok (.ldc_w 267, 3) := by decide +kernel
theorem dX3_draw_12 : decode cX3_draw 12 = .ok (.idiv, 1) := by decide +kernel
theorem dX3_draw_13 : decode cX3_draw 13 = .ok (.iload_n 1, 1) := by decide +kernel
theorem dX3_draw_14 : decode cX3_draw 14 = .ok (.irem, 1) := by decide +kernel
theorem dX3_draw_15 : decode cX3_draw 15 = .ok (.ireturn, 1) := by decide +kernel
theorem dX3_isZeroOrOne_0 : decode cX3_isZeroOrOne 0 = .ok (.iload_n 0, 1) := by decide +kernel
theorem dX3_isZeroOrOne_1 : decode cX3_isZeroOrOne 1 = .ok (.ifCond .eq 8, 3) := by decide +kernel
theorem dX3_isZeroOrOne_4 : decode cX3_isZeroOrOne 4 = .ok (.iload_n 0, 1) := by decide +kernel
theorem dX3_isZeroOrOne_5 : decode cX3_isZeroOrOne 5 = .ok (.iconst 1, 1) := by decide +kernel
theorem dX3_isZeroOrOne_6 : decode cX3_isZeroOrOne 6 = .ok (.if_icmp .ne 7, 3) := by decide +kernel
theorem dX3_isZeroOrOne_9 : decode cX3_isZeroOrOne 9 = .ok (.iconst 1, 1) := by decide +kernel
theorem dX3_isZeroOrOne_10 : decode cX3_isZeroOrOne 10 = .ok (.goto 4, 3) := by decide +kernel
theorem dX3_isZeroOrOne_13 : decode cX3_isZeroOrOne 13 = .ok (.iconst 0, 1) := by decide +kernel
theorem dX3_isZeroOrOne_14 : decode cX3_isZeroOrOne 14 = .ok (.ireturn, 1) := by decide +kernel
theorem dX3_isKind_0 : decode cX3_isKind 0 = .ok (.iload_n 0, 1) := by decide +kernel
theorem dX3_isKind_1 : decode cX3_isKind 1 = .ok (.ifCond .lt 12, 3) := by decide +kernel
theorem dX3_isKind_4 : decode cX3_isKind 4 = .ok (.iload_n 0, 1) := by decide +kernel
theorem dX3_isKind_5 : decode cX3_isKind 5 = .ok (.iconst 5, 1) := by decide +kernel
theorem dX3_isKind_6 : decode cX3_isKind 6 = .ok (.if_icmp .ge 7, 3) := by decide +kernel
theorem dX3_isKind_9 : decode cX3_isKind 9 = .ok (.iconst 1, 1) := by decide +kernel
theorem dX3_isKind_10 : decode cX3_isKind 10 = .ok (.goto 4, 3) := by decide +kernel
theorem dX3_isKind_13 : decode cX3_isKind 13 = .ok (.iconst 0, 1) := by decide +kernel
theorem dX3_isKind_14 : decode cX3_isKind 14 = .ok (.ireturn, 1) := by decide +kernel
theorem dX3_isOfKind_0 : decode cX3_isOfKind 0 = .ok (.iload_n 1, 1) := by decide +kernel
theorem dX3_isOfKind_1 : decode cX3_isOfKind 1 = .ok (.ifCond .eq 18, 3) := by decide +kernel
theorem dX3_isOfKind_4 : decode cX3_isOfKind 4 = .ok (.iload_n 1, 1) := by decide +kernel
theorem dX3_isOfKind_5 : decode cX3_isOfKind 5 = .ok (.iload_n 0, 1) := by decide +kernel
theorem dX3_isOfKind_6 : decode cX3_isOfKind 6 = .ok (.if_icmp .eq 13, 3) := by decide +kernel
theorem dX3_isOfKind_9 : decode cX3_isOfKind 9 = .ok (.iload_n 1, 1) := by decide +kernel
theorem dX3_isOfKind_10 : decode cX3_isOfKind 10 = .ok (.iconst 1, 1) := by decide +kernel
theorem dX3_isOfKind_11 : decode cX3_isOfKind 11 = .ok (.if_icmp .ne 12, 3) := by decide +kernel
theorem dX3_isOfKind_14 : decode cX3_isOfKind 14 = .ok (.iload_n 0, 1) := by decide +kernel
theorem dX3_isOfKind_15 : decode cX3_isOfKind 15 = .ok (.iconst 4, 1) := by decide +kernel
theorem dX3_isOfKind_16 : decode cX3_isOfKind 16 = .ok (.if_icmp .ne 7, 3) := by decide +kernel
theorem dX3_isOfKind_19 : decode cX3_isOfKind 19 = .ok (.iconst 1, 1) := by decide +kernel
theorem dX3_isOfKind_20 : decode cX3_isOfKind 20 = .ok (.goto 4, 3) := by decide +kernel
theorem dX3_isOfKind_23 : decode cX3_isOfKind 23 = .ok (.iconst 0, 1) := by decide +kernel
theorem dX3_isOfKind_24 : decode cX3_isOfKind 24 = .ok (.ireturn, 1) := by decide +kernel
theorem dX3_mayDrink_0 : decode cX3_mayDrink 0 = .ok (.iload_n 2, 1) := by decide +kernel
theorem dX3_mayDrink_1 : decode cX3_mayDrink 1 = .ok (.iconst (-1), 1) := by decide +kernel
theorem dX3_mayDrink_2 : decode cX3_mayDrink 2 = .ok (.if_icmp .ne 5, 3) := by decide +kernel
theorem dX3_mayDrink_5 : decode cX3_mayDrink 5 = .ok (.iconst 0, 1) := by decide +kernel
theorem dX3_mayDrink_6 : decode cX3_mayDrink 6 = .ok (.ireturn, 1) := by decide +kernel
theorem dX3_mayDrink_7 : decode cX3_mayDrink 7 = .ok (.iload_n 0, 1) := by decide +kernel
theorem dX3_mayDrink_8 : decode cX3_mayDrink 8 = .ok (.tableswitch 74 1 4 #[32, 43, 56, 58], 32) := by decide +kernel
theorem dX3_mayDrink_40 : decode cX3_mayDrink 40 = .ok (.iload_n 2, 1) := by decide +kernel
theorem dX3_mayDrink_41 : decode cX3_mayDrink 41 = .ok (.iload_n 1, 1) := by decide +kernel
theorem dX3_mayDrink_42 : decode cX3_mayDrink 42 = .ok (.if_icmp .lt 7, 3) := by decide +kernel
theorem dX3_mayDrink_45 : decode cX3_mayDrink 45 = .ok (.iconst 1, 1) := by decide +kernel
theorem dX3_mayDrink_46 : decode cX3_mayDrink 46 = .ok (.goto 4, 3) := by decide +kernel
theorem dX3_mayDrink_49 : decode cX3_mayDrink 49 = .ok (.iconst 0, 1) := by decide +kernel
theorem dX3_mayDrink_50 : decode cX3_mayDrink 50 = .ok (.ireturn, 1) := by decide +kernel
theorem dX3_mayDrink_51 : decode cX3_mayDrink 51 = .ok (.iload_n 2, 1) := by decide +kernel
theorem dX3_mayDrink_52 : decode cX3_mayDrink 52 = .ok (.iload_n 1, 1) := by decide +kernel
theorem dX3_mayDrink_53 : decode cX3_mayDrink 53 = .ok (.iconst 2, 1) := by decide +kernel
theorem dX3_mayDrink_54 : decode cX3_mayDrink 54 = .ok (.iadd, 1) := by decide +kernel
theorem dX3_mayDrink_55 : decode cX3_mayDrink 55 = .ok (.if_icmp .lt 7, 3) := by decide +kernel
theorem dX3_mayDrink_58 : decode cX3_mayDrink 58 = .ok (.iconst 1, 1) := by decide +kernel
theorem dX3_mayDrink_59 : decode cX3_mayDrink 59 = .ok (.goto 4, 3) := by decide +kernel
theorem dX3_mayDrink_62 : decode cX3_mayDrink 62 = .ok (.iconst 0, 1) := by decide +kernel
theorem dX3_mayDrink_63 : decode cX3_mayDrink 63 = .ok (.ireturn, 1) := by decide +kernel
theorem dX3_mayDrink_64 : decode cX3_mayDrink 64 = .ok (.iconst 1, 1) := by decide +kernel
theorem dX3_mayDrink_65 : decode cX3_mayDrink 65 = .ok (.ireturn, 1) := by decide +kernel
theorem dX3_mayDrink_66 : decode cX3_mayDrink 66 = .ok (.iload_n 2, 1) := by decide +kernel
theorem dX3_mayDrink_67 : decode cX3_mayDrink 67 = .ok (.iload_n 1, 1) := by decide +kernel
theorem dX3_mayDrink_68 : decode cX3_mayDrink 68 = .ok (.if_icmp .lt 12, 3) := by decide +kernel
theorem dX3_mayDrink_71 : decode cX3_mayDrink 71 = .ok (.iload_n 3, 1) := by decide +kernel
theorem dX3_mayDrink_72 : decode cX3_mayDrink 72 = .ok (.iconst 3, 1) := by decide +kernel
theorem dX3_mayDrink_73 : decode cX3_mayDrink 73 = .ok (.if_icmp .ge 7, 3) := by decide +kernel
theorem dX3_mayDrink_76 : decode cX3_mayDrink 76 = .ok (.iconst 1, 1) := by decide +kernel
theorem dX3_mayDrink_77 : decode cX3_mayDrink 77 = .ok (.goto 4, 3) := by decide +kernel
theorem dX3_mayDrink_80 : decode cX3_mayDrink 80 = .ok (.iconst 0, 1) := by decide +kernel
theorem dX3_mayDrink_81 : decode cX3_mayDrink 81 = .ok (.ireturn, 1) := by decide +kernel
theorem dX3_mayDrink_82 : decode cX3_mayDrink 82 = .ok (.iload_n 2, 1) := by decide +kernel
theorem dX3_mayDrink_83 : decode cX3_mayDrink 83 = .ok (.iload_n 1, 1) := by decide +kernel
theorem dX3_mayDrink_84 : decode cX3_mayDrink 84 = .ok (.if_icmp .le 7, 3) := by decide +kernel
theorem dX3_mayDrink_87 : decode cX3_mayDrink 87 = .ok (.iconst 1, 1) := by decide +kernel
theorem dX3_mayDrink_88 : decode cX3_mayDrink 88 = .ok (.goto 4, 3) := by decide +kernel
theorem dX3_mayDrink_91 : decode cX3_mayDrink 91 = .ok (.iconst 0, 1) := by decide +kernel
theorem dX3_mayDrink_92 : decode cX3_mayDrink 92 = .ok (.ireturn, 1) := by decide +kernel
theorem dX4_init_0 : decode cX4_init 0 = .ok (.aload_n 0, 1) := by decide +kernel
theorem dX4_init_1 : decode cX4_init 1 = .ok (.invokespecial 1, 3) := by decide +kernel
theorem dX4_init_4 : decode cX4_init 4 = .ok (.aload_n 0, 1) := by decide +kernel
theorem dX4_init_5 : decode cX4_init 5 = .ok (.bipush 50, 2) := by decide +kernel
theorem dX4_init_7 : decode cX4_init 7 = .ok (.newarray .int, 2) := by decide +kernel
theorem dX4_init_9 : decode cX4_init 9 = .ok (.putfield 7, 3) := by decide +kernel
theorem dX4_init_12 : decode cX4_init 12 = .ok (.aload_n 0, 1) := by decide +kernel
theorem dX4_init_13 : decode cX4_init 13 = .ok (.bipush 10, 2) := by decide +kernel
theorem dX4_init_15 : decode cX4_init 15 = .ok (.newarray .int, 2) := by decide +kernel
theorem dX4_init_17 : decode cX4_init 17 = .ok (.putfield 13, 3) := by decide +kernel
theorem dX4_init_20 : decode cX4_init 20 = .ok (.aload_n 0, 1) := by decide +kernel
theorem dX4_init_21 : decode cX4_init 21 = .ok (.iconst 5, 1) := by decide +kernel
theorem dX4_init_22 : decode cX4_init 22 = .ok (.newarray .int, 2) := by decide +kernel
theorem dX4_init_24 : decode cX4_init 24 = .ok (.putfield 16, 3) := by decide +kernel
theorem dX4_init_27 : decode cX4_init 27 = .ok (.aload_n 0, 1) := by decide +kernel
theorem dX4_init_28 : decode cX4_init 28 = .ok (.iconst 5, 1) := by decide +kernel
theorem dX4_init_29 : decode cX4_init 29 = .ok (.newarray .int, 2) := by decide +kernel
theorem dX4_init_31 : decode cX4_init 31 = .ok (.putfield 19, 3) := by decide +kernel
theorem dX4_init_34 : decode cX4_init 34 = .ok (.aload_n 0, 1) := by decide +kernel
theorem dX4_init_35 : decode cX4_init 35 = .ok (.iconst 5, 1) := by decide +kernel
theorem dX4_init_36 : decode cX4_init 36 = .ok (.newarray .int, 2) := by decide +kernel
theorem dX4_init_38 : decode cX4_init 38 = .ok (.putfield 22, 3) := by decide +kernel
theorem dX4_init_41 : decode cX4_init 41 = .ok (.aload_n 0, 1) := by decide +kernel
theorem dX4_init_42 : decode cX4_init 42 = .ok (.bipush 8, 2) := by decide +kernel
theorem dX4_init_44 : decode cX4_init 44 = .ok (.newarray .int, 2) := by decide +kernel
theorem dX4_init_46 : decode cX4_init 46 = .ok (.putfield 25, 3) := by decide +kernel
theorem dX4_init_49 : decode cX4_init 49 = .ok (.aload_n 0, 1) := by decide +kernel
theorem dX4_init_50 : decode cX4_init 50 = .ok (.bipush 8, 2) := by decide +kernel
theorem dX4_init_52 : decode cX4_init 52 = .ok (.newarray .int, 2) := by decide +kernel
theorem dX4_init_54 : decode cX4_init 54 = .ok (.putfield 28, 3) := by decide +kernel
theorem dX4_init_57 : decode cX4_init 57 = .ok (.aload_n 0, 1) := by decide +kernel
theorem dX4_init_58 : decode cX4_init 58 = .ok (.bipush 18, 2) := by decide +kernel
theorem dX4_init_60 : decode cX4_init 60 = .ok (.newarray .byte, 2) := by decide +kernel
theorem dX4_init_62 : decode cX4_init 62 = .ok (.putfield 31, 3) := by decide +kernel
theorem dX4_init_65 : decode cX4_init 65 = .ok (.aload_n 0, 1) := by decide +kernel
theorem dX4_init_66 : decode cX4_init 66 = .ok (.iconst 5, 1) := by decide +kernel
theorem dX4_init_67 : decode cX4_init 67 = .ok (.newarray .int, 2) := by decide +kernel
theorem dX4_init_69 : decode cX4_init 69 = .ok (.putfield 35, 3) := by decide +kernel
theorem dX4_init_72 : decode cX4_init 72 = .ok (.aload_n 0, 1) := by decide +kernel
theorem dX4_init_73 : decode cX4_init 73 = .ok (.iconst 5, 1) := by decide +kernel
theorem dX4_init_74 : decode cX4_init 74 = .ok (.newarray .int, 2) := by decide +kernel
theorem dX4_init_76 : decode cX4_init 76 = .ok (.putfield 38, 3) := by decide +kernel
theorem dX4_init_79 : decode cX4_init 79 = .ok (.aload_n 0, 1) := by decide +kernel
theorem dX4_init_80 : decode cX4_init 80 = .ok (.bipush 50, 2) := by decide +kernel
theorem dX4_init_82 : decode cX4_init 82 = .ok (.newarray .int, 2) := by decide +kernel
theorem dX4_init_84 : decode cX4_init 84 = .ok (.putfield 41, 3) := by decide +kernel
theorem dX4_init_87 : decode cX4_init 87 = .ok (.aload_n 0, 1) := by decide +kernel
theorem dX4_init_88 : decode cX4_init 88 = .ok (.bipush 50, 2) := by decide +kernel
theorem dX4_init_90 : decode cX4_init 90 = .ok (.newarray .int, 2) := by decide +kernel
theorem dX4_init_92 : decode cX4_init 92 = .ok (.putfield 44, 3) := by decide +kernel
theorem dX4_init_95 : decode cX4_init 95 = .ok (.aload_n 0, 1) := by decide +kernel
theorem dX4_init_96 : decode cX4_init 96 = .ok (.iconst 5, 1) := by decide +kernel
theorem dX4_init_97 : decode cX4_init 97 = .ok (.newarray .int, 2) := by decide +kernel
theorem dX4_init_99 : decode cX4_init 99 = .ok (.putfield 47, 3) := by decide +kernel
theorem dX4_init_102 : decode cX4_init 102 = .ok (.aload_n 0, 1) := by decide +kernel
theorem dX4_init_103 : decode cX4_init 103 = .ok (.bipush 8, 2) := by decide +kernel
theorem dX4_init_105 : decode cX4_init 105 = .ok (.newarray .int, 2) := by decide +kernel
theorem dX4_init_107 : decode cX4_init 107 = .ok (.putfield 50, 3) := by decide +kernel
theorem dX4_init_110 : decode cX4_init 110 = .ok (.aload_n 0, 1) := by decide +kernel
theorem dX4_init_111 : decode cX4_init 111 = .ok (.bipush 8, 2) := by decide +kernel
theorem dX4_init_113 : decode cX4_init 113 = .ok (.newarray .int, 2) := by decide +kernel
theorem dX4_init_115 : decode cX4_init 115 = .ok (.putfield 53, 3) := by decide +kernel
theorem dX4_init_118 : decode cX4_init 118 = .ok (.return_, 1) := by decide +kernel
theorem dX4_within_0 : decode cX4_within 0 = .ok (.iload_n 0, 1) := by decide +kernel
theorem dX4_within_1 : decode cX4_within 1 = .ok (.iload_n 1, 1) := by decide +kernel
theorem dX4_within_2 : decode cX4_within 2 = .ok (.if_icmp .lt 12, 3) := by decide +kernel
theorem dX4_within_5 : decode cX4_within 5 = .ok (.iload_n 0, 1) := by decide +kernel
theorem dX4_within_6 : decode cX4_within 6 = .ok (.iload_n 2, 1) := by decide +kernel
theorem dX4_within_7 : decode cX4_within 7 = .ok (.if_icmp .gt 7, 3) := by decide +kernel
theorem dX4_within_10 : decode cX4_within 10 = .ok (.iconst 1, 1) := by decide +kernel
theorem dX4_within_11 : decode cX4_within 11 = .ok (.goto 4, 3) := by decide +kernel
theorem dX4_within_14 : decode cX4_within 14 = .ok (.iconst 0, 1) := by decide +kernel
theorem dX4_within_15 : decode cX4_within 15 = .ok (.ireturn, 1) := by decide +kernel
theorem dX4_has_0 : decode cX4_has 0 = .ok (.iload_n 0, 1) := by decide +kernel
theorem dX4_has_1 : decode cX4_has 1 = .ok (.iload_n 1, 1) := by decide +kernel
theorem dX4_has_2 : decode cX4_has 2 = .ok (.ishr, 1) := by decide +kernel
theorem dX4_has_3 : decode cX4_has 3 = .ok (.iconst 1, 1) := by decide +kernel
theorem dX4_has_4 : decode cX4_has 4 = .ok (.iand, 1) := by decide +kernel
theorem dX4_has_5 : decode cX4_has 5 = .ok (.iconst 1, 1) := by decide +kernel
theorem dX4_has_6 : decode cX4_has 6 = .ok (.if_icmp .ne 7, 3) := by decide +kernel
theorem dX4_has_9 : decode cX4_has 9 = .ok (.iconst 1, 1) := by decide +kernel
theorem dX4_has_10 : decode cX4_has 10 = .ok (.goto 4, 3) := by decide +kernel
theorem dX4_has_13 : decode cX4_has 13 = .ok (.iconst 0, 1) := by decide +kernel
theorem dX4_has_14 : decode cX4_has 14 = .ok (.ireturn, 1) := by decide +kernel
theorem dX4_size_0 : decode cX4_size 0 = .ok (.iconst 0, 1) := by decide +kernel
theorem dX4_size_1 : decode cX4_size 1 = .ok (.istore_n 1, 1) := by decide +kernel
theorem dX4_size_2 : decode cX4_size 2 = .ok (.iconst 0, 1) := by decide +kernel
theorem dX4_size_3 : decode cX4_size 3 = .ok (.istore_n 2, 1) := by decide +kernel
theorem dX4_size_4 : decode cX4_size 4 = .ok (.iload_n 2, 1) := by decide +kernel
theorem dX4_size_5 : decode cX4_size 5 = .ok (.bipush 10, 2) := by decide +kernel
theorem dX4_size_7 : decode cX4_size 7 = .ok (.if_icmp .ge 17, 3) := by decide +kernel
theorem dX4_size_10 : decode cX4_size 10 = .ok (.iload_n 1, 1) := by decide +kernel
theorem dX4_size_11 : decode cX4_size 11 = .ok (.iload_n 0, 1) := by decide +kernel
theorem dX4_size_12 : decode cX4_size 12 = .ok (.iload_n 2, 1) := by decide +kernel
theorem dX4_size_13 : decode cX4_size 13 = .ok (.ishr, 1) := by decide +kernel
theorem dX4_size_14 : decode cX4_size 14 = .ok (.iconst 1, 1) := by decide +kernel
theorem dX4_size_15 : decode cX4_size 15 = .ok (.iand, 1) := by decide +kernel
theorem dX4_size_16 : decode cX4_size 16 = .ok (.iadd, 1) := by decide +kernel
theorem dX4_size_17 : decode cX4_size 17 = .ok (.istore_n 1, 1) := by decide +kernel
theorem dX4_size_18 : decode cX4_size 18 = .ok (.iinc 2 1, 3) := by decide +kernel
theorem dX4_size_21 : decode cX4_size 21 = .ok (.goto (-17), 3) := by decide +kernel
theorem dX4_size_24 : decode cX4_size 24 = .ok (.iload_n 1, 1) := by decide +kernel
theorem dX4_size_25 : decode cX4_size 25 = .ok (.ireturn, 1) := by decide +kernel
set_option maxRecDepth 20000 in
theorem ggX4_letter_X4_within : GoodIn wsX4_letter wsX4_within := goodIn_r _ [6] (by decide +kernel) (by decide +kernel)
set_option maxRecDepth 20000 in
theorem gX4_letter_X4_within : GoodIn wsX4_letter (va_wsS RX4 56 yX4_within wsX4_within) := goodIn_app (goodIn_of _ (by decide +kernel)) ggX4_letter_X4_within
theorem dX4_letter_0 : decode cX4_letter 0 = .ok (.iload_n 1, 1) := by decide +kernel
theorem dX4_letter_1 : decode cX4_letter 1 = .ok (.bipush 32, 2) := by decide +kernel
theorem dX4_letter_3 : decode cX4_letter 3 = .ok (.bipush 126, 2) := by decide +kernel
theorem dX4_letter_5 : decode cX4_letter 5 = .ok (.invokestatic 56, 3) := by decide +kernel
theorem dX4_letter_8 : decode cX4_letter 8 = .ok (.ifCond .ne 6, 3) := by decide +kernel
theorem dX4_letter_11 : decode cX4_letter 11 = .ok (.bipush (-102), 2) := by decide +kernel
theorem dX4_letter_13 : decode cX4_letter 13 = .ok (.ireturn, 1) := by decide +kernel
theorem dX4_letter_14 : decode cX4_letter 14 = .ok (.aload_n 0, 1) := by decide +kernel
theorem dX4_letter_15 : decode cX4_letter 15 = .ok (.getfield 60, 3) := by decide +kernel
theorem dX4_letter_18 : decode cX4_letter 18 = .ok (.bipush 18, 2) := by decide +kernel
theorem dX4_letter_20 : decode cX4_letter 20 = .ok (.if_icmp .ne 6, 3) := by decide +kernel
theorem dX4_letter_23 : decode cX4_letter 23 = .ok (.bipush (-104), 2) := by decide +kernel
theorem dX4_letter_25 : decode cX4_letter 25 = .ok (.ireturn, 1) := by decide +kernel
theorem dX4_letter_26 : decode cX4_letter 26 = .ok (.aload_n 0, 1) := by decide +kernel
theorem dX4_letter_27 : decode cX4_letter 27 = .ok (.getfield 31, 3) := by decide +kernel
theorem dX4_letter_30 : decode cX4_letter 30 = .ok (.aload_n 0, 1) := by decide +kernel
theorem dX4_letter_31 : decode cX4_letter 31 = .ok (.getfield 60, 3) := by decide +kernel
theorem dX4_letter_34 : decode cX4_letter 34 = .ok (.iload_n 1, 1) := by decide +kernel
theorem dX4_letter_35 : decode cX4_letter 35 = .ok (.i2b, 1) := by decide +kernel
theorem dX4_letter_36 : decode cX4_letter 36 = .ok (.bastore, 1) := by decide +kernel
theorem dX4_letter_37 : decode cX4_letter 37 = .ok (.aload_n 0, 1) := by decide +kernel
theorem dX4_letter_38 : decode cX4_letter 38 = .ok (.dup, 1) := by decide +kernel
theorem dX4_letter_39 : decode cX4_letter 39 = .ok (.getfield 60, 3) := by decide +kernel
theorem dX4_letter_42 : decode cX4_letter 42 = .ok (.iconst 1, 1) := by decide +kernel
theorem dX4_letter_43 : decode cX4_letter 43 = .ok (.iadd, 1) := by decide +kernel
theorem dX4_letter_44 : decode cX4_letter 44 = .ok (.putfield 60, 3) := by decide +kernel
theorem dX4_letter_47 : decode cX4_letter 47 = .ok (.aload_n 0, 1) := by decide +kernel
theorem dX4_letter_48 : decode cX4_letter 48 = .ok (.getfield 60, 3) := by decide +kernel
theorem dX4_letter_51 : decode cX4_letter 51 = .ok (.ireturn, 1) := by decide +kernel
theorem dX4_blank_0 : decode cX4_blank 0 = .ok (.aload_n 0, 1) := by decide +kernel
theorem dX4_blank_1 : decode cX4_blank 1 = .ok (.getfield 60, 3) := by decide +kernel
theorem dX4_blank_4 : decode cX4_blank 4 = .ok (.istore_n 1, 1) := by decide +kernel
theorem dX4_blank_5 : decode cX4_blank 5 = .ok (.aload_n 0, 1) := by decide +kernel
theorem dX4_blank_6 : decode cX4_blank 6 = .ok (.iconst 0, 1) := by decide +kernel
theorem dX4_blank_7 : decode cX4_blank 7 = .ok (.putfield 60, 3) := by decide +kernel
theorem dX4_blank_10 : decode cX4_blank 10 = .ok (.iload_n 1, 1) := by decide +kernel
theorem dX4_blank_11 : decode cX4_blank 11 = .ok (.ireturn, 1) := by decide +kernel
set_option maxRecDepth 20000 in
theorem ggX4_isFigure_X4_within : GoodIn wsX4_isFigure wsX4_within := goodIn_r _ [6] (by decide +kernel) (by decide +kernel)
set_option maxRecDepth 20000 in
theorem gX4_isFigure_X4_within : GoodIn wsX4_isFigure (va_wsS RX4 56 yX4_within wsX4_within) := goodIn_app (goodIn_of _ (by decide +kernel)) ggX4_isFigure_X4_within
theorem dX4_isFigure_0 : decode cX4_isFigure 0 = .ok (.iload_n 1, 1) := by decide +kernel
theorem dX4_isFigure_1 : decode cX4_isFigure 1 = .ok (.aload_n 0, 1) := by decide +kernel
theorem dX4_isFigure_2 : decode cX4_isFigure 2 = .ok (.getfield 60, 3) := by decide +kernel
theorem dX4_isFigure_5 : decode cX4_isFigure 5 = .ok (.if_icmp .ge 24, 3) := by decide +kernel
theorem dX4_isFigure_8 : decode cX4_isFigure 8 = .ok (.aload_n 0, 1) := by decide +kernel
theorem dX4_isFigure_9 : decode cX4_isFigure 9 = .ok (.getfield 31, 3) := by decide +kernel
theorem dX4_isFigure_12 : decode cX4_isFigure 12 = .ok (.iload_n 1, 1) := by decide +kernel
theorem dX4_isFigure_13 : decode cX4_isFigure 13 = .ok (.baload, 1) := by decide +kernel
theorem dX4_isFigure_14 : decode cX4_isFigure 14 = .ok (.bipush 48, 2) := by decide +kernel
theorem dX4_isFigure_16 : decode cX4_isFigure 16 = .ok (.isub, 1) := by decide +kernel
theorem dX4_isFigure_17 : decode cX4_isFigure 17 = .ok (.iconst 0, 1) := by decide +kernel
theorem dX4_isFigure_18 : decode cX4_isFigure 18 = .ok (.iload_n 2, 1) := by decide +kernel
theorem dX4_isFigure_19 : decode cX4_isFigure 19 = .ok (.invokestatic 56, 3) := by decide +kernel
theorem dX4_isFigure_22 : decode cX4_isFigure 22 = .ok (.ifCond .eq 7, 3) := by decide +kernel
theorem dX4_isFigure_25 : decode cX4_isFigure 25 = .ok (.iconst 1, 1) := by decide +kernel
theorem dX4_isFigure_26 : decode cX4_isFigure 26 = .ok (.goto 4, 3) := by decide +kernel
theorem dX4_isFigure_29 : decode cX4_isFigure 29 = .ok (.iconst 0, 1) := by decide +kernel
theorem dX4_isFigure_30 : decode cX4_isFigure 30 = .ok (.ireturn, 1) := by decide +kernel
set_option maxRecDepth 20000 in
theorem ggX4_read_X4_isFigure : GoodIn wsX4_read wsX4_isFigure := goodIn_r _ [9, 3, 4, 10, 11, 8, 12, 13, 14, 15, 16, 17, 18, 19, 20, 21, 22, 23, 24, 25, 26, 27, 28, 29, 30, 31, 32, 33, 34, 35, 36, 37, 38, 39, 40, 41, 42] (by decide +kernel) (by decide +kernel)
set_option maxRecDepth 20000 in
theorem gX4_read_X4_isFigure : GoodIn wsX4_read (wsV RX4 71 RX4 yX4_isFigure wsX4_isFigure) := goodIn_app (goodIn_of _ (by decide +kernel)) ggX4_read_X4_isFigure
theorem dX4_read_0 : decode cX4_read 0 = .ok (.aload_n 0, 1) := by decide +kernel
theorem dX4_read_1 : decode cX4_read 1 = .ok (.iconst 0, 1) := by decide +kernel
theorem dX4_read_2 : decode cX4_read 2 = .ok (.putfield 64, 3) := by decide +kernel
theorem dX4_read_5 : decode cX4_read 5 = .ok (.aload_n 0, 1) := by decide +kernel
theorem dX4_read_6 : decode cX4_read 6 = .ok (.iconst 0, 1) := by decide +kernel
theorem dX4_read_7 : decode cX4_read 7 = .ok (.putfield 68, 3) := by decide +kernel
theorem dX4_read_10 : decode cX4_read 10 = .ok (.aload_n 0, 1) := by decide +kernel
theorem dX4_read_11 : decode cX4_read 11 = .ok (.iconst 0, 1) := by decide +kernel
theorem dX4_read_12 : decode cX4_read 12 = .ok (.iconst 3, 1) := by decide +kernel
theorem dX4_read_13 : decode cX4_read 13 = .ok (.invokevirtual 71, 3) := by decide +kernel
theorem dX4_read_16 : decode cX4_read 16 = .ok (.ifCond .ne 5, 3) := by decide +kernel
theorem dX4_read_19 : decode cX4_read 19 = .ok (.iconst 0, 1) := by decide +kernel
theorem dX4_read_20 : decode cX4_read 20 = .ok (.ireturn, 1) := by decide +kernel
theorem dX4_read_21 : decode cX4_read 21 = .ok (.aload_n 0, 1) := by decide +kernel
theorem dX4_read_22 : decode cX4_read 22 = .ok (.getfield 60, 3) := by decide +kernel
theorem dX4_read_25 : decode cX4_read 25 = .ok (.iconst 2, 1) := by decide +kernel
theorem dX4_read_26 : decode cX4_read 26 = .ok (.if_icmp .lt 14, 3) := by decide +kernel
theorem dX4_read_29 : decode cX4_read 29 = .ok (.aload_n 0, 1) := by decide +kernel
theorem dX4_read_30 : decode cX4_read 30 = .ok (.getfield 31, 3) := by decide +kernel
theorem dX4_read_33 : decode cX4_read 33 = .ok (.iconst 1, 1) := by decide +kernel
theorem dX4_read_34 : decode cX4_read 34 = .ok (.baload, 1) := by decide +kernel
theorem dX4_read_35 : decode cX4_read 35 = .ok (.bipush 59, 2) := by decide +kernel
theorem dX4_read_37 : decode cX4_read 37 = .ok (.if_icmp .eq 5, 3) := by decide +kernel
theorem dX4_read_40 : decode cX4_read 40 = .ok (.iconst 1, 1) := by decide +kernel
theorem dX4_read_41 : decode cX4_read 41 = .ok (.ireturn, 1) := by decide +kernel
theorem dX4_read_42 : decode cX4_read 42 = .ok (.iconst 2, 1) := by decide +kernel
theorem dX4_read_43 : decode cX4_read 43 = .ok (.istore_n 1, 1) := by decide +kernel
theorem dX4_read_44 : decode cX4_read 44 = .ok (.aload_n 0, 1) := by decide +kernel
theorem dX4_read_45 : decode cX4_read 45 = .ok (.getfield 68, 3) := by decide +kernel
theorem dX4_read_48 : decode cX4_read 48 = .ok (.iconst 5, 1) := by decide +kernel
theorem dX4_read_49 : decode cX4_read 49 = .ok (.if_icmp .ge 104, 3) := by decide +kernel
theorem dX4_read_52 : decode cX4_read 52 = .ok (.aload_n 0, 1) := by decide +kernel
theorem dX4_read_53 : decode cX4_read 53 = .ok (.iload_n 1, 1) := by decide +kernel
theorem dX4_read_54 : decode cX4_read 54 = .ok (.bipush 9, 2) := by decide +kernel
theorem dX4_read_56 : decode cX4_read 56 = .ok (.invokevirtual 71, 3) := by decide +kernel
theorem dX4_read_59 : decode cX4_read 59 = .ok (.ifCond .ne 5, 3) := by decide +kernel
theorem dX4_read_62 : decode cX4_read 62 = .ok (.iload_n 1, 1) := by decide +kernel
theorem dX4_read_63 : decode cX4_read 63 = .ok (.ireturn, 1) := by decide +kernel
theorem dX4_read_64 : decode cX4_read 64 = .ok (.aload_n 0, 1) := by decide +kernel
theorem dX4_read_65 : decode cX4_read 65 = .ok (.iload_n 1, 1) := by decide +kernel
theorem dX4_read_66 : decode cX4_read 66 = .ok (.iconst 1, 1) := by decide +kernel
theorem dX4_read_67 : decode cX4_read 67 = .ok (.iadd, 1) := by decide +kernel
theorem dX4_read_68 : decode cX4_read 68 = .ok (.bipush 9, 2) := by decide +kernel
theorem dX4_read_70 : decode cX4_read 70 = .ok (.invokevirtual 71, 3) := by decide +kernel
theorem dX4_read_73 : decode cX4_read 73 = .ok (.ifCond .ne 7, 3) := by decide +kernel
theorem dX4_read_76 : decode cX4_read 76 = .ok (.iload_n 1, 1) := by decide +kernel
theorem dX4_read_77 : decode cX4_read 77 = .ok (.iconst 1, 1) := by decide +kernel
theorem dX4_read_78 : decode cX4_read 78 = .ok (.iadd, 1) := by decide +kernel
theorem dX4_read_79 : decode cX4_read 79 = .ok (.ireturn, 1) := by decide +kernel
theorem dX4_read_80 : decode cX4_read 80 = .ok (.aload_n 0, 1) := by decide +kernel
theorem dX4_read_81 : decode cX4_read 81 = .ok (.dup, 1) := by decide +kernel
theorem dX4_read_82 : decode cX4_read 82 = .ok (.getfield 68, 3) := by decide +kernel
theorem dX4_read_85 : decode cX4_read 85 = .ok (.iconst 1, 1) := by decide +kernel
theorem dX4_read_86 : decode cX4_read 86 = .ok (.iadd, 1) := by decide +kernel
theorem dX4_read_87 : decode cX4_read 87 = .ok (.putfield 68, 3) := by decide +kernel
theorem dX4_read_90 : decode cX4_read 90 = .ok (.iinc 1 2, 3) := by decide +kernel
theorem dX4_read_93 : decode cX4_read 93 = .ok (.iload_n 1, 1) := by decide +kernel
theorem dX4_read_94 : decode cX4_read 94 = .ok (.aload_n 0, 1) := by decide +kernel
theorem dX4_read_95 : decode cX4_read 95 = .ok (.getfield 60, 3) := by decide +kernel
theorem dX4_read_98 : decode cX4_read 98 = .ok (.if_icmp .eq 22, 3) := by decide +kernel
theorem dX4_read_101 : decode cX4_read 101 = .ok (.aload_n 0, 1) := by decide +kernel
theorem dX4_read_102 : decode cX4_read 102 = .ok (.getfield 68, 3) := by decide +kernel
theorem dX4_read_105 : decode cX4_read 105 = .ok (.iconst 5, 1) := by decide +kernel
theorem dX4_read_106 : decode cX4_read 106 = .ok (.if_icmp .eq 14, 3) := by decide +kernel
theorem dX4_read_109 : decode cX4_read 109 = .ok (.aload_n 0, 1) := by decide +kernel
theorem dX4_read_110 : decode cX4_read 110 = .ok (.getfield 31, 3) := by decide +kernel
theorem dX4_read_113 : decode cX4_read 113 = .ok (.iload_n 1, 1) := by decide +kernel
theorem dX4_read_114 : decode cX4_read 114 = .ok (.baload, 1) := by decide +kernel
theorem dX4_read_115 : decode cX4_read 115 = .ok (.bipush 44, 2) := by decide +kernel
theorem dX4_read_117 : decode cX4_read 117 = .ok (.if_icmp .eq 30, 3) := by decide +kernel
theorem dX4_read_120 : decode cX4_read 120 = .ok (.aload_n 0, 1) := by decide +kernel
theorem dX4_read_121 : decode cX4_read 121 = .ok (.iload_n 1, 1) := by decide +kernel
theorem dX4_read_122 : decode cX4_read 122 = .ok (.aload_n 0, 1) := by decide +kernel
theorem dX4_read_123 : decode cX4_read 123 = .ok (.getfield 60, 3) := by decide +kernel
theorem dX4_read_126 : decode cX4_read 126 = .ok (.if_icmp .ne 15, 3) := by decide +kernel
theorem dX4_read_129 : decode cX4_read 129 = .ok (.aload_n 0, 1) := by decide +kernel
theorem dX4_read_130 : decode cX4_read 130 = .ok (.getfield 68, 3) := by decide +kernel
theorem dX4_read_133 : decode cX4_read 133 = .ok (.iconst 1, 1) := by decide +kernel
theorem dX4_read_134 : decode cX4_read 134 = .ok (.if_icmp .le 7, 3) := by decide +kernel
theorem dX4_read_137 : decode cX4_read 137 = .ok (.iconst 1, 1) := by decide +kernel
theorem dX4_read_138 : decode cX4_read 138 = .ok (.goto 4, 3) := by decide +kernel
theorem dX4_read_141 : decode cX4_read 141 = .ok (.iconst 0, 1) := by decide +kernel
theorem dX4_read_142 : decode cX4_read 142 = .ok (.putfield 64, 3) := by decide +kernel
theorem dX4_read_145 : decode cX4_read 145 = .ok (.iload_n 1, 1) := by decide +kernel
theorem dX4_read_146 : decode cX4_read 146 = .ok (.ireturn, 1) := by decide +kernel
theorem dX4_read_147 : decode cX4_read 147 = .ok (.iinc 1 1, 3) := by decide +kernel
theorem dX4_read_150 : decode cX4_read 150 = .ok (.goto (-106), 3) := by decide +kernel
theorem dX4_read_153 : decode cX4_read 153 = .ok (.iload_n 1, 1) := by decide +kernel
theorem dX4_read_154 : decode cX4_read 154 = .ok (.ireturn, 1) := by decide +kernel
set_option maxRecDepth 20000 in
theorem ggX4_fault_X4_read : GoodIn wsX4_fault wsX4_read := goodIn_r _ [5, 6, 7, 8, 9, 10, 11, 12, 4, 13, 14, 15, 16, 17, 18, 19, 20, 21, 22, 23, 24, 25, 26, 27, 28, 29, 30, 31, 32, 33, 34, 35, 36, 37, 38, 39, 40, 41, 42, 43, 44, 45, 46] (by decide +kernel) (by decide +kernel)
set_option maxRecDepth 20000 in
theorem gX4_fault_X4_read : GoodIn wsX4_fault (wsV RX4 75 RX4 yX4_read wsX4_read) := goodIn_app (goodIn_of _ (by decide +kernel)) ggX4_fault_X4_read
theorem dX4_fault_0 : decode cX4_fault 0 = .ok (.aload_n 0, 1) := by decide +kernel
theorem dX4_fault_1 : decode cX4_fault 1 = .ok (.invokevirtual 75, 3) := by decide +kernel
theorem dX4_fault_4 : decode cX4_fault 4 = .ok (.ireturn, 1) := by decide +kernel
set_option maxRecDepth 20000 in
theorem ggX4_cellar_X4_read : GoodIn wsX4_cellar wsX4_read := goodIn_r _ [15, 1, 5, 10, 3, 16, 17, 18, 14, 19, 20, 21, 22, 23, 24, 25, 26, 27, 28, 29, 30, 31, 32, 33, 34, 35, 36, 37, 38, 39, 40, 41, 42, 43, 44, 45, 46, 47, 48, 49, 50, 51, 52] (by decide +kernel) (by decide +kernel)
set_option maxRecDepth 20000 in
theorem gX4_cellar_X4_read : GoodIn wsX4_cellar (wsV RX4 75 RX4 yX4_read wsX4_read) := goodIn_app (goodIn_of _ (by decide +kernel)) ggX4_cellar_X4_read
theorem dX4_cellar_0 : decode cX4_cellar 0 = .ok (.aload_n 0, 1) := by decide +kernel
theorem dX4_cellar_1 : decode cX4_cellar 1 = .ok (.invokevirtual 75, 3) := by decide +kernel
theorem dX4_cellar_4 : decode cX4_cellar 4 = .ok (.pop, 1) := by decide +kernel
theorem dX4_cellar_5 : decode cX4_cellar 5 = .ok (.aload_n 0, 1) := by decide +kernel
theorem dX4_cellar_6 : decode cX4_cellar 6 = .ok (.getfield 64, 3) := by decide +kernel
theorem dX4_cellar_9 : decode cX4_cellar 9 = .ok (.ifCond .ne 6, 3) := by decide +kernel
theorem dX4_cellar_12 : decode cX4_cellar 12 = .ok (.bipush (-103), 2) := by decide +kernel
theorem dX4_cellar_14 : decode cX4_cellar 14 = .ok (.ireturn, 1) := by decide +kernel
theorem dX4_cellar_15 : decode cX4_cellar 15 = .ok (.iconst 0, 1) := by decide +kernel
theorem dX4_cellar_16 : decode cX4_cellar 16 = .ok (.istore_n 1, 1) := by decide +kernel
theorem dX4_cellar_17 : decode cX4_cellar 17 = .ok (.iload_n 1, 1) := by decide +kernel
theorem dX4_cellar_18 : decode cX4_cellar 18 = .ok (.bipush 50, 2) := by decide +kernel
theorem dX4_cellar_20 : decode cX4_cellar 20 = .ok (.if_icmp .ge 16, 3) := by decide +kernel
theorem dX4_cellar_23 : decode cX4_cellar 23 = .ok (.aload_n 0, 1) := by decide +kernel
theorem dX4_cellar_24 : decode cX4_cellar 24 = .ok (.getfield 7, 3) := by decide +kernel
theorem dX4_cellar_27 : decode cX4_cellar 27 = .ok (.iload_n 1, 1) := by decide +kernel
theorem dX4_cellar_28 : decode cX4_cellar 28 = .ok (.iconst 0, 1) := by decide +kernel
theorem dX4_cellar_29 : decode cX4_cellar 29 = .ok (.iastore, 1) := by decide +kernel
theorem dX4_cellar_30 : decode cX4_cellar 30 = .ok (.iinc 1 1, 3) := by decide +kernel
theorem dX4_cellar_33 : decode cX4_cellar 33 = .ok (.goto (-16), 3) := by decide +kernel
theorem dX4_cellar_36 : decode cX4_cellar 36 = .ok (.aload_n 0, 1) := by decide +kernel
theorem dX4_cellar_37 : decode cX4_cellar 37 = .ok (.aload_n 0, 1) := by decide +kernel
theorem dX4_cellar_38 : decode cX4_cellar 38 = .ok (.getfield 31, 3) := by decide +kernel
theorem dX4_cellar_41 : decode cX4_cellar 41 = .ok (.iconst 0, 1) := by decide +kernel
theorem dX4_cellar_42 : decode cX4_cellar 42 = .ok (.baload, 1) := by decide +kernel
theorem dX4_cellar_43 : decode cX4_cellar 43 = .ok (.bipush 48, 2) := by decide +kernel
theorem dX4_cellar_45 : decode cX4_cellar 45 = .ok (.isub, 1) := by decide +kernel
theorem dX4_cellar_46 : decode cX4_cellar 46 = .ok (.putfield 79, 3) := by decide +kernel
theorem dX4_cellar_49 : decode cX4_cellar 49 = .ok (.aload_n 0, 1) := by decide +kernel
theorem dX4_cellar_50 : decode cX4_cellar 50 = .ok (.aload_n 0, 1) := by decide +kernel
theorem dX4_cellar_51 : decode cX4_cellar 51 = .ok (.getfield 68, 3) := by decide +kernel
theorem dX4_cellar_54 : decode cX4_cellar 54 = .ok (.putfield 82, 3) := by decide +kernel
theorem dX4_cellar_57 : decode cX4_cellar 57 = .ok (.iconst 0, 1) := by decide +kernel
theorem dX4_cellar_58 : decode cX4_cellar 58 = .ok (.istore_n 1, 1) := by decide +kernel
theorem dX4_cellar_59 : decode cX4_cellar 59 = .ok (.iload_n 1, 1) := by decide +kernel
theorem dX4_cellar_60 : decode cX4_cellar 60 = .ok (.aload_n 0, 1) := by decide +kernel
theorem dX4_cellar_61 : decode cX4_cellar 61 = .ok (.getfield 82, 3) := by decide +kernel
theorem dX4_cellar_64 : decode cX4_cellar 64 = .ok (.if_icmp .ge 45, 3) := by decide +kernel
theorem dX4_cellar_67 : decode cX4_cellar 67 = .ok (.aload_n 0, 1) := by decide +kernel
theorem dX4_cellar_68 : decode cX4_cellar 68 = .ok (.getfield 7, 3) := by decide +kernel
theorem dX4_cellar_71 : decode cX4_cellar 71 = .ok (.bipush 10, 2) := by decide +kernel
theorem dX4_cellar_73 : decode cX4_cellar 73 = .ok (.iload_n 1, 1) := by decide +kernel
theorem dX4_cellar_74 : decode cX4_cellar 74 = .ok (.imul, 1) := by decide +kernel
theorem dX4_cellar_75 : decode cX4_cellar 75 = .ok (.aload_n 0, 1) := by decide +kernel
theorem dX4_cellar_76 : decode cX4_cellar 76 = .ok (.getfield 31, 3) := by decide +kernel
theorem dX4_cellar_79 : decode cX4_cellar 79 = .ok (.iconst 2, 1) := by decide +kernel
theorem dX4_cellar_80 : decode cX4_cellar 80 = .ok (.iconst 3, 1) := by decide +kernel
theorem dX4_cellar_81 : decode cX4_cellar 81 = .ok (.iload_n 1, 1) := by decide +kernel
theorem dX4_cellar_82 : decode cX4_cellar 82 = .ok (.imul, 1) := by decide +kernel
theorem dX4_cellar_83 : decode cX4_cellar 83 = .ok (.iadd, 1) := by decide +kernel
theorem dX4_cellar_84 : decode cX4_cellar 84 = .ok (.baload, 1) := by decide +kernel
theorem dX4_cellar_85 : decode cX4_cellar 85 = .ok (.iadd, 1) := by decide +kernel
theorem dX4_cellar_86 : decode cX4_cellar 86 = .ok (.bipush 48, 2) := by decide +kernel
theorem dX4_cellar_88 : decode cX4_cellar 88 = .ok (.isub, 1) := by decide +kernel
theorem dX4_cellar_89 : decode cX4_cellar 89 = .ok (.aload_n 0, 1) := by decide +kernel
theorem dX4_cellar_90 : decode cX4_cellar 90 = .ok (.getfield 31, 3) := by decide +kernel
theorem dX4_cellar_93 : decode cX4_cellar 93 = .ok (.iconst 3, 1) := by decide +kernel
theorem dX4_cellar_94 : decode cX4_cellar 94 = .ok (.iconst 3, 1) := by decide +kernel
theorem dX4_cellar_95 : decode cX4_cellar 95 = .ok (.iload_n 1, 1) := by decide +kernel
theorem dX4_cellar_96 : decode cX4_cellar 96 = .ok (.imul, 1) := by decide +kernel
theorem dX4_cellar_97 : decode cX4_cellar 97 = .ok (.iadd, 1) := by decide +kernel
theorem dX4_cellar_98 : decode cX4_cellar 98 = .ok (.baload, 1) := by decide +kernel
theorem dX4_cellar_99 : decode cX4_cellar 99 = .ok (.bipush 48, 2) := by decide +kernel
theorem dX4_cellar_101 : decode cX4_cellar 101 = .ok (.isub, 1) := by decide +kernel
theorem dX4_cellar_102 : decode cX4_cellar 102 = .ok (.iastore, 1) := by decide +kernel
theorem dX4_cellar_103 : decode cX4_cellar 103 = .ok (.iinc 1 1, 3) := by decide +kernel
theorem dX4_cellar_106 : decode cX4_cellar 106 = .ok (.goto (-47), 3) := by decide +kernel
theorem dX4_cellar_109 : decode cX4_cellar 109 = .ok (.aload_n 0, 1) := by decide +kernel
theorem dX4_cellar_110 : decode cX4_cellar 110 = .ok (.dup, 1) := by decide +kernel
theorem dX4_cellar_111 : decode cX4_cellar 111 = .ok (.getfield 85, 3) := by decide +kernel
theorem dX4_cellar_114 : decode cX4_cellar 114 = .ok (.iconst 1, 1) := by decide +kernel
theorem dX4_cellar_115 : decode cX4_cellar 115 = .ok (.iadd, 1) := by decide +kernel
theorem dX4_cellar_116 : decode cX4_cellar 116 = .ok (.putfield 85, 3) := by decide +kernel
theorem dX4_cellar_119 : decode cX4_cellar 119 = .ok (.aload_n 0, 1) := by decide +kernel
theorem dX4_cellar_120 : decode cX4_cellar 120 = .ok (.iconst 0, 1) := by decide +kernel
theorem dX4_cellar_121 : decode cX4_cellar 121 = .ok (.putfield 88, 3) := by decide +kernel
theorem dX4_cellar_124 : decode cX4_cellar 124 = .ok (.aload_n 0, 1) := by decide +kernel
theorem dX4_cellar_125 : decode cX4_cellar 125 = .ok (.iconst 0, 1) := by decide +kernel
theorem dX4_cellar_126 : decode cX4_cellar 126 = .ok (.putfield 91, 3) := by decide +kernel
theorem dX4_cellar_129 : decode cX4_cellar 129 = .ok (.aload_n 0, 1) := by decide +kernel
theorem dX4_cellar_130 : decode cX4_cellar 130 = .ok (.iconst 0, 1) := by decide +kernel
theorem dX4_cellar_131 : decode cX4_cellar 131 = .ok (.putfield 60, 3) := by decide +kernel
theorem dX4_cellar_134 : decode cX4_cellar 134 = .ok (.aload_n 0, 1) := by decide +kernel
theorem dX4_cellar_135 : decode cX4_cellar 135 = .ok (.getfield 82, 3) := by decide +kernel
theorem dX4_cellar_138 : decode cX4_cellar 138 = .ok (.ireturn, 1) := by decide +kernel
set_option maxRecDepth 20000 in
theorem ggX4_isCask_X4_within : GoodIn wsX4_isCask wsX4_within := goodIn_r _ [5] (by decide +kernel) (by decide +kernel)
set_option maxRecDepth 20000 in
theorem gX4_isCask_X4_within : GoodIn wsX4_isCask (va_wsS RX4 56 yX4_within wsX4_within) := goodIn_app (goodIn_of _ (by decide +kernel)) ggX4_isCask_X4_within
theorem dX4_isCask_0 : decode cX4_isCask 0 = .ok (.iload_n 1, 1) := by decide +kernel
theorem dX4_isCask_1 : decode cX4_isCask 1 = .ok (.iconst 0, 1) := by decide +kernel
theorem dX4_isCask_2 : decode cX4_isCask 2 = .ok (.aload_n 0, 1) := by decide +kernel
theorem dX4_isCask_3 : decode cX4_isCask 3 = .ok (.getfield 82, 3) := by decide +kernel
theorem dX4_isCask_6 : decode cX4_isCask 6 = .ok (.iconst 1, 1) := by decide +kernel
theorem dX4_isCask_7 : decode cX4_isCask 7 = .ok (.isub, 1) := by decide +kernel
theorem dX4_isCask_8 : decode cX4_isCask 8 = .ok (.invokestatic 56, 3) := by decide +kernel
theorem dX4_isCask_11 : decode cX4_isCask 11 = .ok (.ireturn, 1) := by decide +kernel
theorem dX4_clear_0 : decode cX4_clear 0 = .ok (.iconst 0, 1) := by decide +kernel
theorem dX4_clear_1 : decode cX4_clear 1 = .ok (.istore_n 1, 1) := by decide +kernel
theorem dX4_clear_2 : decode cX4_clear 2 = .ok (.iload_n 1, 1) := by decide +kernel
theorem dX4_clear_3 : decode cX4_clear 3 = .ok (.bipush 10, 2) := by decide +kernel
theorem dX4_clear_5 : decode cX4_clear 5 = .ok (.if_icmp .ge 16, 3) := by decide +kernel
theorem dX4_clear_8 : decode cX4_clear 8 = .ok (.aload_n 0, 1) := by decide +kernel
theorem dX4_clear_9 : decode cX4_clear 9 = .ok (.getfield 13, 3) := by decide +kernel
theorem dX4_clear_12 : decode cX4_clear 12 = .ok (.iload_n 1, 1) := by decide +kernel
theorem dX4_clear_13 : decode cX4_clear 13 = .ok (.iconst 0, 1) := by decide +kernel
theorem dX4_clear_14 : decode cX4_clear 14 = .ok (.iastore, 1) := by decide +kernel
theorem dX4_clear_15 : decode cX4_clear 15 = .ok (.iinc 1 1, 3) := by decide +kernel
theorem dX4_clear_18 : decode cX4_clear 18 = .ok (.goto (-16), 3) := by decide +kernel
theorem dX4_clear_21 : decode cX4_clear 21 = .ok (.return_, 1) := by decide +kernel
theorem dX4_add_0 : decode cX4_add 0 = .ok (.iconst 0, 1) := by decide +kernel
theorem dX4_add_1 : decode cX4_add 1 = .ok (.istore_n 2, 1) := by decide +kernel
theorem dX4_add_2 : decode cX4_add 2 = .ok (.iload_n 2, 1) := by decide +kernel
theorem dX4_add_3 : decode cX4_add 3 = .ok (.bipush 10, 2) := by decide +kernel
theorem dX4_add_5 : decode cX4_add 5 = .ok (.if_icmp .ge 29, 3) := by decide +kernel
theorem dX4_add_8 : decode cX4_add 8 = .ok (.aload_n 0, 1) := by decide +kernel
theorem dX4_add_9 : decode cX4_add 9 = .ok (.getfield 13, 3) := by decide +kernel
theorem dX4_add_12 : decode cX4_add 12 = .ok (.iload_n 2, 1) := by decide +kernel
theorem dX4_add_13 : decode cX4_add 13 = .ok (.dup2, 1) := by decide +kernel
theorem dX4_add_14 : decode cX4_add 14 = .ok (.iaload, 1) := by decide +kernel
theorem dX4_add_15 : decode cX4_add 15 = .ok (.aload_n 0, 1) := by decide +kernel
theorem dX4_add_16 : decode cX4_add 16 = .ok (.getfield 7, 3) := by decide +kernel
theorem dX4_add_19 : decode cX4_add 19 = .ok (.bipush 10, 2) := by decide +kernel
theorem dX4_add_21 : decode cX4_add 21 = .ok (.iload_n 1, 1) := by decide +kernel
theorem dX4_add_22 : decode cX4_add 22 = .ok (.imul, 1) := by decide +kernel
theorem dX4_add_23 : decode cX4_add 23 = .ok (.iload_n 2, 1) := by decide +kernel
theorem dX4_add_24 : decode cX4_add 24 = .ok (.iadd, 1) := by decide +kernel
theorem dX4_add_25 : decode cX4_add 25 = .ok (.iaload, 1) := by decide +kernel
theorem dX4_add_26 : decode cX4_add 26 = .ok (.iadd, 1) := by decide +kernel
theorem dX4_add_27 : decode cX4_add 27 = .ok (.iastore, 1) := by decide +kernel
theorem dX4_add_28 : decode cX4_add 28 = .ok (.iinc 2 1, 3) := by decide +kernel
theorem dX4_add_31 : decode cX4_add 31 = .ok (.goto (-29), 3) := by decide +kernel
theorem dX4_add_34 : decode cX4_add 34 = .ok (.return_, 1) := by decide +kernel
set_option maxRecDepth 20000 in
theorem ggX4_think_X4_clear : GoodIn wsX4_think wsX4_clear := goodIn_r _ [5, 6, 12, 13, 14, 15, 16, 17, 18, 19, 20, 21, 22, 23, 24, 25, 26, 27, 28, 29, 30, 31, 32, 33, 34, 35, 36, 37, 38, 39, 40, 41] (by decide +kernel) (by decide +kernel)
set_option maxRecDepth 20000 in
theorem gX4_think_X4_clear : GoodIn wsX4_think (wsV RX4 94 RX4 yX4_clear wsX4_clear) := goodIn_app (goodIn_of _ (by decide +kernel)) ggX4_think_X4_clear
set_option maxRecDepth 20000 in
theorem ggX4_think_X4_add : GoodIn wsX4_think wsX4_add := goodIn_r _ [10, 6, 11, 12, 13, 14, 15, 16, 17, 18, 19, 20, 21, 22, 23, 24, 25, 26, 27, 28, 29, 30, 31, 32, 33, 34, 35, 36, 37, 38, 39, 40, 41] (by decide +kernel) (by decide +kernel)
set_option maxRecDepth 20000 in
theorem gX4_think_X4_add : GoodIn wsX4_think (wsV RX4 97 RX4 yX4_add wsX4_add) := goodIn_app (goodIn_of _ (by decide +kernel)) ggX4_think_X4_add
theorem dX4_think_0 : decode cX4_think 0 = .ok (.aload_n 0, 1) := by decide +kernel
theorem dX4_think_1 : decode cX4_think 1 = .ok (.invokevirtual 94, 3) := by decide +kernel
theorem dX4_think_4 : decode cX4_think 4 = .ok (.aload_n 0, 1) := by decide +kernel
theorem dX4_think_5 : decode cX4_think 5 = .ok (.iload_n 1, 1) := by decide +kernel
theorem dX4_think_6 : decode cX4_think 6 = .ok (.invokevirtual 97, 3) := by decide +kernel
theorem dX4_think_9 : decode cX4_think 9 = .ok (.return_, 1) := by decide +kernel
theorem dX4_litresThought_0 : decode cX4_litresThought 0 = .ok (.iconst 0, 1) := by decide +kernel
theorem dX4_litresThought_1 : decode cX4_litresThought 1 = .ok (.istore_n 1, 1) := by decide +kernel
theorem dX4_litresThought_2 : decode cX4_litresThought 2 = .ok (.iconst 0, 1) := by decide +kernel
theorem dX4_litresThought_3 : decode cX4_litresThought 3 = .ok (.istore_n 2, 1) := by decide +kernel
theorem dX4_litresThought_4 : decode cX4_litresThought 4 = .ok (.iload_n 2, 1) := by decide +kernel
theorem dX4_litresThought_5 : decode cX4_litresThought 5 = .ok (.bipush 10, 2) := by decide +kernel
theorem dX4_litresThought_7 : decode cX4_litresThought 7 = .ok (.if_icmp .ge 18, 3) := by decide +kernel
theorem dX4_litresThought_10 : decode cX4_litresThought 10 = .ok (.iload_n 1, 1) := by decide +kernel
theorem dX4_litresThought_11 : decode cX4_litresThought 11 = .ok (.aload_n 0, 1) := by decide +kernel
theorem dX4_litresThought_12 : decode cX4_litresThought 12 = .ok (.getfield 13, 3) := by decide +kernel
theorem dX4_litresThought_15 : decode cX4_litresThought 15 = .ok (.iload_n 2, 1) := by decide +kernel
theorem dX4_litresThought_16 : decode cX4_litresThought 16 = .ok (.iaload, 1) := by decide +kernel
theorem dX4_litresThought_17 : decode cX4_litresThought 17 = .ok (.iadd, 1) := by decide +kernel
theorem dX4_litresThought_18 : decode cX4_litresThought 18 = .ok (.istore_n 1, 1) := by decide +kernel
theorem dX4_litresThought_19 : decode cX4_litresThought 19 = .ok (.iinc 2 1, 3) := by decide +kernel
theorem dX4_litresThought_22 : decode cX4_litresThought 22 = .ok (.goto (-18), 3) := by decide +kernel
theorem dX4_litresThought_25 : decode cX4_litresThought 25 = .ok (.iload_n 1, 1) := by decide +kernel
theorem dX4_litresThought_26 : decode cX4_litresThought 26 = .ok (.ireturn, 1) := by decide +kernel
theorem dX4_yearsThought_0 : decode cX4_yearsThought 0 = .ok (.iconst 0, 1) := by decide +kernel
theorem dX4_yearsThought_1 : decode cX4_yearsThought 1 = .ok (.istore_n 1, 1) := by decide +kernel
theorem dX4_yearsThought_2 : decode cX4_yearsThought 2 = .ok (.iconst 0, 1) := by decide +kernel
theorem dX4_yearsThought_3 : decode cX4_yearsThought 3 = .ok (.istore_n 2, 1) := by decide +kernel
theorem dX4_yearsThought_4 : decode cX4_yearsThought 4 = .ok (.iload_n 2, 1) := by decide +kernel
theorem dX4_yearsThought_5 : decode cX4_yearsThought 5 = .ok (.bipush 10, 2) := by decide +kernel
theorem dX4_yearsThought_7 : decode cX4_yearsThought 7 = .ok (.if_icmp .ge 28, 3) := by decide +kernel
theorem dX4_yearsThought_10 : decode cX4_yearsThought 10 = .ok (.iload_n 1, 1) := by decide +kernel
theorem dX4_yearsThought_11 : decode cX4_yearsThought 11 = .ok (.aload_n 0, 1) := by decide +kernel
theorem dX4_yearsThought_12 : decode cX4_yearsThought 12 = .ok (.getfield 13, 3) := by decide +kernel
theorem dX4_yearsThought_15 : decode cX4_yearsThought 15 = .ok (.iload_n 2, 1) := by decide +kernel
theorem dX4_yearsThought_16 : decode cX4_yearsThought 16 = .ok (.iaload, 1) := by decide +kernel
theorem dX4_yearsThought_17 : decode cX4_yearsThought 17 = .ok (.ifCond .le 9, 3) := by decide +kernel
theorem dX4_yearsThought_20 : decode cX4_yearsThought 20 = .ok (.iconst 1, 1) := by decide +kernel
theorem dX4_yearsThought_21 : decode cX4_yearsThought 21 = .ok (.iload_n 2, 1) := by decide +kernel
theorem dX4_yearsThought_22 : decode cX4_yearsThought 22 = .ok (.ishl, 1) := by decide +kernel
theorem dX4_yearsThought_23 : decode cX4_yearsThought 23 = .ok (.goto 4, 3) := by decide +kernel
theorem dX4_yearsThought_26 : decode cX4_yearsThought 26 = .ok (.iconst 0, 1) := by decide +kernel
theorem dX4_yearsThought_27 : decode cX4_yearsThought 27 = .ok (.ior, 1) := by decide +kernel
theorem dX4_yearsThought_28 : decode cX4_yearsThought 28 = .ok (.istore_n 1, 1) := by decide +kernel
theorem dX4_yearsThought_29 : decode cX4_yearsThought 29 = .ok (.iinc 2 1, 3) := by decide +kernel
theorem dX4_yearsThought_32 : decode cX4_yearsThought 32 = .ok (.goto (-28), 3) := by decide +kernel
theorem dX4_yearsThought_35 : decode cX4_yearsThought 35 = .ok (.iload_n 1, 1) := by decide +kernel
theorem dX4_yearsThought_36 : decode cX4_yearsThought 36 = .ok (.ireturn, 1) := by decide +kernel
theorem dX4_latestThought_0 : decode cX4_latestThought 0 = .ok (.iconst (-1), 1) := by decide +kernel
theorem dX4_latestThought_1 : decode cX4_latestThought 1 = .ok (.istore_n 1, 1) := by decide +kernel
theorem dX4_latestThought_2 : decode cX4_latestThought 2 = .ok (.iconst 0, 1) := by decide +kernel
theorem dX4_latestThought_3 : decode cX4_latestThought 3 = .ok (.istore_n 2, 1) := by decide +kernel
theorem dX4_latestThought_4 : decode cX4_latestThought 4 = .ok (.iload_n 2, 1) := by decide +kernel
theorem dX4_latestThought_5 : decode cX4_latestThought 5 = .ok (.bipush 10, 2) := by decide +kernel
theorem dX4_latestThought_7 : decode cX4_latestThought 7 = .ok (.if_icmp .ge 24, 3) := by decide +kernel
theorem dX4_latestThought_10 : decode cX4_latestThought 10 = .ok (.aload_n 0, 1) := by decide +kernel
theorem dX4_latestThought_11 : decode cX4_latestThought 11 = .ok (.getfield 13, 3) := by decide +kernel
theorem dX4_latestThought_14 : decode cX4_latestThought 14 = .ok (.iload_n 2, 1) := by decide +kernel
theorem dX4_latestThought_15 : decode cX4_latestThought 15 = .ok (.iaload, 1) := by decide +kernel
theorem dX4_latestThought_16 : decode cX4_latestThought 16 = .ok (.ifCond .le 7, 3) := by decide +kernel
theorem dX4_latestThought_19 : decode cX4_latestThought 19 = .ok (.iload_n 2, 1) := by decide +kernel
theorem dX4_latestThought_20 : decode cX4_latestThought 20 = .ok (.goto 4, 3) := by decide +kernel
theorem dX4_latestThought_23 : decode cX4_latestThought 23 = .ok (.iload_n 1, 1) := by decide +kernel
theorem dX4_latestThought_24 : decode cX4_latestThought 24 = .ok (.istore_n 1, 1) := by decide +kernel
theorem dX4_latestThought_25 : decode cX4_latestThought 25 = .ok (.iinc 2 1, 3) := by decide +kernel
theorem dX4_latestThought_28 : decode cX4_latestThought 28 = .ok (.goto (-24), 3) := by decide +kernel
theorem dX4_latestThought_31 : decode cX4_latestThought 31 = .ok (.iload_n 1, 1) := by decide +kernel
theorem dX4_latestThought_32 : decode cX4_latestThought 32 = .ok (.ireturn, 1) := by decide +kernel
set_option maxRecDepth 20000 in
theorem ggX4_ageThought_X4_litresThought : GoodIn wsX4_ageThought wsX4_litresThought := goodIn_r _ [7, 1, 12, 13, 14, 15, 16, 17, 18, 19, 20, 21, 22, 23, 24, 25, 26, 27, 28, 29, 30, 31, 32, 33, 34, 35, 36, 37, 38, 39, 40, 41] (by decide +kernel) (by decide +kernel)
set_option maxRecDepth 20000 in
theorem gX4_ageThought_X4_litresThought : GoodIn wsX4_ageThought (wsV RX4 101 RX4 yX4_litresThought wsX4_litresThought) := goodIn_app (goodIn_of _ (by decide +kernel)) ggX4_ageThought_X4_litresThought
set_option maxRecDepth 20000 in
theorem ggX4_ageThought_X4_latestThought : GoodIn wsX4_ageThought wsX4_latestThought := goodIn_r _ [11, 1, 12, 13, 14, 15, 16, 17, 18, 19, 20, 21, 22, 23, 24, 25, 26, 27, 28, 29, 30, 31, 32, 33, 34, 35, 36, 37, 38, 39, 40, 41] (by decide +kernel) (by decide +kernel)
set_option maxRecDepth 20000 in
theorem gX4_ageThought_X4_latestThought : GoodIn wsX4_ageThought (wsV RX4 104 RX4 yX4_latestThought wsX4_latestThought) := goodIn_app (goodIn_of _ (by decide +kernel)) ggX4_ageThought_X4_latestThought
theorem dX4_ageThought_0 : decode cX4_ageThought 0 = .ok (.aload_n 0, 1) := by decide +kernel
theorem dX4_ageThought_1 : decode cX4_ageThought 1 = .ok (.invokevirtual 101, 3) := by decide +kernel
theorem dX4_ageThought_4 : decode cX4_ageThought 4 = .ok (.istore_n 1, 1) := by decide +kernel
theorem dX4_ageThought_5 : decode cX4_ageThought 5 = .ok (.iconst (-1), 1) := by decide +kernel
theorem dX4_ageThought_6 : decode cX4_ageThought 6 = .ok (.istore_n 2, 1) := by decide +kernel
theorem dX4_ageThought_7 : decode cX4_ageThought 7 = .ok (.iconst (-1), 1) := by decide +kernel
theorem dX4_ageThought_8 : decode cX4_ageThought 8 = .ok (.istore_n 3, 1) := by decide +kernel
theorem dX4_ageThought_9 : decode cX4_ageThought 9 = .ok (.iconst 0, 1) := by decide +kernel
theorem dX4_ageThought_10 : decode cX4_ageThought 10 = .ok (.istore 4, 2) := by decide +kernel
theorem dX4_ageThought_12 : decode cX4_ageThought 12 = .ok (.iconst 0, 1) := by decide +kernel
theorem dX4_ageThought_13 : decode cX4_ageThought 13 = .ok (.istore 5, 2) := by decide +kernel
theorem dX4_ageThought_15 : decode cX4_ageThought 15 = .ok (.iload 5, 2) := by decide +kernel
theorem dX4_ageThought_17 : decode cX4_ageThought 17 = .ok (.bipush 10, 2) := by decide +kernel
theorem dX4_ageThought_19 : decode cX4_ageThought 19 = .ok (.if_icmp .ge 84, 3) := by decide +kernel
theorem dX4_ageThought_22 : decode cX4_ageThought 22 = .ok (.iload_n 2, 1) := by decide +kernel
theorem dX4_ageThought_23 : decode cX4_ageThought 23 = .ok (.iconst (-1), 1) := by decide +kernel
theorem dX4_ageThought_24 : decode cX4_ageThought 24 = .ok (.if_icmp .ne 18, 3) := by decide +kernel
theorem dX4_ageThought_27 : decode cX4_ageThought 27 = .ok (.aload_n 0, 1) := by decide +kernel
theorem dX4_ageThought_28 : decode cX4_ageThought 28 = .ok (.getfield 13, 3) := by decide +kernel
theorem dX4_ageThought_31 : decode cX4_ageThought 31 = .ok (.iload 5, 2) := by decide +kernel
theorem dX4_ageThought_33 : decode cX4_ageThought 33 = .ok (.iaload, 1) := by decide +kernel
theorem dX4_ageThought_34 : decode cX4_ageThought 34 = .ok (.ifCond .le 8, 3) := by decide +kernel
theorem dX4_ageThought_37 : decode cX4_ageThought 37 = .ok (.iload 5, 2) := by decide +kernel
theorem dX4_ageThought_39 : decode cX4_ageThought 39 = .ok (.goto 4, 3) := by decide +kernel
theorem dX4_ageThought_42 : decode cX4_ageThought 42 = .ok (.iload_n 2, 1) := by decide +kernel
theorem dX4_ageThought_43 : decode cX4_ageThought 43 = .ok (.istore_n 2, 1) := by decide +kernel
theorem dX4_ageThought_44 : decode cX4_ageThought 44 = .ok (.aload_n 0, 1) := by decide +kernel
theorem dX4_ageThought_45 : decode cX4_ageThought 45 = .ok (.getfield 13, 3) := by decide +kernel
theorem dX4_ageThought_48 : decode cX4_ageThought 48 = .ok (.iload 5, 2) := by decide +kernel
theorem dX4_ageThought_50 : decode cX4_ageThought 50 = .ok (.iaload, 1) := by decide +kernel
theorem dX4_ageThought_51 : decode cX4_ageThought 51 = .ok (.ifCond .le 29, 3) := by decide +kernel
theorem dX4_ageThought_54 : decode cX4_ageThought 54 = .ok (.iload_n 3, 1) := by decide +kernel
theorem dX4_ageThought_55 : decode cX4_ageThought 55 = .ok (.iconst (-1), 1) := by decide +kernel
theorem dX4_ageThought_56 : decode cX4_ageThought 56 = .ok (.if_icmp .eq 19, 3) := by decide +kernel
theorem dX4_ageThought_59 : decode cX4_ageThought 59 = .ok (.aload_n 0, 1) := by decide +kernel
theorem dX4_ageThought_60 : decode cX4_ageThought 60 = .ok (.getfield 13, 3) := by decide +kernel
theorem dX4_ageThought_63 : decode cX4_ageThought 63 = .ok (.iload 5, 2) := by decide +kernel
theorem dX4_ageThought_65 : decode cX4_ageThought 65 = .ok (.iaload, 1) := by decide +kernel
theorem dX4_ageThought_66 : decode cX4_ageThought 66 = .ok (.aload_n 0, 1) := by decide +kernel
theorem dX4_ageThought_67 : decode cX4_ageThought 67 = .ok (.getfield 13, 3) := by decide +kernel
theorem dX4_ageThought_70 : decode cX4_ageThought 70 = .ok (.iload_n 3, 1) := by decide +kernel
theorem dX4_ageThought_71 : decode cX4_ageThought 71 = .ok (.iaload, 1) := by decide +kernel
theorem dX4_ageThought_72 : decode cX4_ageThought 72 = .ok (.if_icmp .lt 8, 3) := by decide +kernel
theorem dX4_ageThought_75 : decode cX4_ageThought 75 = .ok (.iload 5, 2) := by decide +kernel
theorem dX4_ageThought_77 : decode cX4_ageThought 77 = .ok (.goto 4, 3) := by decide +kernel
theorem dX4_ageThought_80 : decode cX4_ageThought 80 = .ok (.iload_n 3, 1) := by decide +kernel
theorem dX4_ageThought_81 : decode cX4_ageThought 81 = .ok (.istore_n 3, 1) := by decide +kernel
theorem dX4_ageThought_82 : decode cX4_ageThought 82 = .ok (.iload 4, 2) := by decide +kernel
theorem dX4_ageThought_84 : decode cX4_ageThought 84 = .ok (.iload 5, 2) := by decide +kernel
theorem dX4_ageThought_86 : decode cX4_ageThought 86 = .ok (.aload_n 0, 1) := by decide +kernel
theorem dX4_ageThought_87 : decode cX4_ageThought 87 = .ok (.getfield 13, 3) := by decide +kernel
theorem dX4_ageThought_90 : decode cX4_ageThought 90 = .ok (.iload 5, 2) := by decide +kernel
theorem dX4_ageThought_92 : decode cX4_ageThought 92 = .ok (.iaload, 1) := by decide +kernel
theorem dX4_ageThought_93 : decode cX4_ageThought 93 = .ok (.imul, 1) := by decide +kernel
theorem dX4_ageThought_94 : decode cX4_ageThought 94 = .ok (.iadd, 1) := by decide +kernel
theorem dX4_ageThought_95 : decode cX4_ageThought 95 = .ok (.istore 4, 2) := by decide +kernel
theorem dX4_ageThought_97 : decode cX4_ageThought 97 = .ok (.iinc 5 1, 3) := by decide +kernel
theorem dX4_ageThought_100 : decode cX4_ageThought 100 = .ok (.goto (-85), 3) := by decide +kernel
theorem dX4_ageThought_103 : decode cX4_ageThought 103 = .ok (.iload_n 1, 1) := by decide +kernel
theorem dX4_ageThought_104 : decode cX4_ageThought 104 = .ok (.ifCond .ne 5, 3) := by decide +kernel
theorem dX4_ageThought_107 : decode cX4_ageThought 107 = .ok (.iconst (-1), 1) := by decide +kernel
theorem dX4_ageThought_108 : decode cX4_ageThought 108 = .ok (.ireturn, 1) := by decide +kernel
theorem dX4_ageThought_109 : decode cX4_ageThought 109 = .ok (.aload_n 0, 1) := by decide +kernel
theorem dX4_ageThought_110 : decode cX4_ageThought 110 = .ok (.getfield 79, 3) := by decide +kernel
theorem dX4_ageThought_113 : decode cX4_ageThought 113 = .ok (.ifCond .ne 10, 3) := by decide +kernel
theorem dX4_ageThought_116 : decode cX4_ageThought 116 = .ok (.aload_n 0, 1) := by decide +kernel
theorem dX4_ageThought_117 : decode cX4_ageThought 117 = .ok (.invokevirtual 104, 3) := by decide +kernel
theorem dX4_ageThought_120 : decode cX4_ageThought 120 = .ok (.goto 31, 3) := by decide +kernel
theorem dX4_ageThought_123 : decode cX4_ageThought 123 = .ok (.aload_n 0, 1) := by decide +kernel
theorem dX4_ageThought_124 : decode cX4_ageThought 124 = .ok (.getfield 79, 3) := by decide +kernel
theorem dX4_ageThought_127 : decode cX4_ageThought 127 = .ok (.iconst 1, 1) := by decide +kernel
