theorem dX4_ageThought_128 : decode cX4_ageThought 128 = .ok (.if_icmp .ne 7, 3) := by decide +kernel
theorem dX4_ageThought_131 : decode cX4_ageThought 131 = .ok (.iload_n 2, 1) := by decide +kernel
theorem dX4_ageThought_132 : decode cX4_ageThought 132 = .ok (.goto 19, 3) := by decide +kernel
theorem dX4_ageThought_135 : decode cX4_ageThought 135 = .ok (.aload_n 0, 1) := by decide +kernel
theorem dX4_ageThought_136 : decode cX4_ageThought 136 = .ok (.getfield 79, 3) := by decide +kernel
theorem dX4_ageThought_139 : decode cX4_ageThought 139 = .ok (.iconst 2, 1) := by decide +kernel
theorem dX4_ageThought_140 : decode cX4_ageThought 140 = .ok (.if_icmp .ne 7, 3) := by decide +kernel
theorem dX4_ageThought_143 : decode cX4_ageThought 143 = .ok (.iload_n 3, 1) := by decide +kernel
theorem dX4_ageThought_144 : decode cX4_ageThought 144 = .ok (.goto 7, 3) := by decide +kernel
theorem dX4_ageThought_147 : decode cX4_ageThought 147 = .ok (.iload 4, 2) := by decide +kernel
theorem dX4_ageThought_149 : decode cX4_ageThought 149 = .ok (.iload_n 1, 1) := by decide +kernel
theorem dX4_ageThought_150 : decode cX4_ageThought 150 = .ok (.idiv, 1) := by decide +kernel
theorem dX4_ageThought_151 : decode cX4_ageThought 151 = .ok (.ireturn, 1) := by decide +kernel
set_option maxRecDepth 20000 in
theorem ggX4_mayThought_X4_ageThought : GoodIn wsX4_mayThought wsX4_ageThought := goodIn_r _ [5, 6, 7, 8, 9, 10, 4, 11, 12, 13, 14, 15, 23, 24, 25, 26, 27, 28, 29, 30, 31, 32, 33, 34, 35, 36, 37, 38, 39, 40, 41, 42, 43, 44, 45, 46, 47, 48, 49, 50, 51, 52] (by decide +kernel) (by decide +kernel)
set_option maxRecDepth 20000 in
theorem gX4_mayThought_X4_ageThought : GoodIn wsX4_mayThought (wsV RX4 107 RX4 yX4_ageThought wsX4_ageThought) := goodIn_app (goodIn_of _ (by decide +kernel)) ggX4_mayThought_X4_ageThought
set_option maxRecDepth 20000 in
theorem ggX4_mayThought_X4_yearsThought : GoodIn wsX4_mayThought wsX4_yearsThought := goodIn_r _ [19, 6, 23, 24, 25, 26, 27, 28, 29, 30, 31, 32, 33, 34, 35, 36, 37, 38, 39, 40, 41, 42, 43, 44, 45, 46, 47, 48, 49, 50, 51, 52] (by decide +kernel) (by decide +kernel)
set_option maxRecDepth 20000 in
theorem gX4_mayThought_X4_yearsThought : GoodIn wsX4_mayThought (wsV RX4 110 RX4 yX4_yearsThought wsX4_yearsThought) := goodIn_app (goodIn_of _ (by decide +kernel)) ggX4_mayThought_X4_yearsThought
set_option maxRecDepth 20000 in
theorem ggX4_mayThought_X4_size : GoodIn wsX4_mayThought wsX4_size := goodIn_r _ [22] (by decide +kernel) (by decide +kernel)
set_option maxRecDepth 20000 in
theorem gX4_mayThought_X4_size : GoodIn wsX4_mayThought (va_wsS RX4 113 yX4_size wsX4_size) := goodIn_app (goodIn_of _ (by decide +kernel)) ggX4_mayThought_X4_size
theorem dX4_mayThought_0 : decode cX4_mayThought 0 = .ok (.aload_n 0, 1) := by decide +kernel
theorem dX4_mayThought_1 : decode cX4_mayThought 1 = .ok (.invokevirtual 107, 3) := by decide +kernel
theorem dX4_mayThought_4 : decode cX4_mayThought 4 = .ok (.istore_n 3, 1) := by decide +kernel
theorem dX4_mayThought_5 : decode cX4_mayThought 5 = .ok (.iload_n 3, 1) := by decide +kernel
theorem dX4_mayThought_6 : decode cX4_mayThought 6 = .ok (.iconst (-1), 1) := by decide +kernel
theorem dX4_mayThought_7 : decode cX4_mayThought 7 = .ok (.if_icmp .ne 5, 3) := by decide +kernel
theorem dX4_mayThought_10 : decode cX4_mayThought 10 = .ok (.iconst 0, 1) := by decide +kernel
theorem dX4_mayThought_11 : decode cX4_mayThought 11 = .ok (.ireturn, 1) := by decide +kernel
theorem dX4_mayThought_12 : decode cX4_mayThought 12 = .ok (.iload_n 1, 1) := by decide +kernel
theorem dX4_mayThought_13 : decode cX4_mayThought 13 = .ok (.tableswitch 79 1 4 #[31, 42, 55, 57], 31) := by decide +kernel
theorem dX4_mayThought_44 : decode cX4_mayThought 44 = .ok (.iload_n 3, 1) := by decide +kernel
theorem dX4_mayThought_45 : decode cX4_mayThought 45 = .ok (.iload_n 2, 1) := by decide +kernel
theorem dX4_mayThought_46 : decode cX4_mayThought 46 = .ok (.if_icmp .lt 7, 3) := by decide +kernel
theorem dX4_mayThought_49 : decode cX4_mayThought 49 = .ok (.iconst 1, 1) := by decide +kernel
theorem dX4_mayThought_50 : decode cX4_mayThought 50 = .ok (.goto 4, 3) := by decide +kernel
theorem dX4_mayThought_53 : decode cX4_mayThought 53 = .ok (.iconst 0, 1) := by decide +kernel
theorem dX4_mayThought_54 : decode cX4_mayThought 54 = .ok (.ireturn, 1) := by decide +kernel
theorem dX4_mayThought_55 : decode cX4_mayThought 55 = .ok (.iload_n 3, 1) := by decide +kernel
theorem dX4_mayThought_56 : decode cX4_mayThought 56 = .ok (.iload_n 2, 1) := by decide +kernel
theorem dX4_mayThought_57 : decode cX4_mayThought 57 = .ok (.iconst 2, 1) := by decide +kernel
theorem dX4_mayThought_58 : decode cX4_mayThought 58 = .ok (.iadd, 1) := by decide +kernel
theorem dX4_mayThought_59 : decode cX4_mayThought 59 = .ok (.if_icmp .lt 7, 3) := by decide +kernel
theorem dX4_mayThought_62 : decode cX4_mayThought 62 = .ok (.iconst 1, 1) := by decide +kernel
theorem dX4_mayThought_63 : decode cX4_mayThought 63 = .ok (.goto 4, 3) := by decide +kernel
theorem dX4_mayThought_66 : decode cX4_mayThought 66 = .ok (.iconst 0, 1) := by decide +kernel
theorem dX4_mayThought_67 : decode cX4_mayThought 67 = .ok (.ireturn, 1) := by decide +kernel
theorem dX4_mayThought_68 : decode cX4_mayThought 68 = .ok (.iconst 1, 1) := by decide +kernel
theorem dX4_mayThought_69 : decode cX4_mayThought 69 = .ok (.ireturn, 1) := by decide +kernel
theorem dX4_mayThought_70 : decode cX4_mayThought 70 = .ok (.iload_n 3, 1) := by decide +kernel
theorem dX4_mayThought_71 : decode cX4_mayThought 71 = .ok (.iload_n 2, 1) := by decide +kernel
theorem dX4_mayThought_72 : decode cX4_mayThought 72 = .ok (.if_icmp .lt 18, 3) := by decide +kernel
theorem dX4_mayThought_75 : decode cX4_mayThought 75 = .ok (.aload_n 0, 1) := by decide +kernel
theorem dX4_mayThought_76 : decode cX4_mayThought 76 = .ok (.invokevirtual 110, 3) := by decide +kernel
theorem dX4_mayThought_79 : decode cX4_mayThought 79 = .ok (.invokestatic 113, 3) := by decide +kernel
theorem dX4_mayThought_82 : decode cX4_mayThought 82 = .ok (.iconst 3, 1) := by decide +kernel
theorem dX4_mayThought_83 : decode cX4_mayThought 83 = .ok (.if_icmp .ge 7, 3) := by decide +kernel
theorem dX4_mayThought_86 : decode cX4_mayThought 86 = .ok (.iconst 1, 1) := by decide +kernel
theorem dX4_mayThought_87 : decode cX4_mayThought 87 = .ok (.goto 4, 3) := by decide +kernel
theorem dX4_mayThought_90 : decode cX4_mayThought 90 = .ok (.iconst 0, 1) := by decide +kernel
theorem dX4_mayThought_91 : decode cX4_mayThought 91 = .ok (.ireturn, 1) := by decide +kernel
theorem dX4_mayThought_92 : decode cX4_mayThought 92 = .ok (.iload_n 3, 1) := by decide +kernel
theorem dX4_mayThought_93 : decode cX4_mayThought 93 = .ok (.iload_n 2, 1) := by decide +kernel
theorem dX4_mayThought_94 : decode cX4_mayThought 94 = .ok (.if_icmp .le 7, 3) := by decide +kernel
theorem dX4_mayThought_97 : decode cX4_mayThought 97 = .ok (.iconst 1, 1) := by decide +kernel
theorem dX4_mayThought_98 : decode cX4_mayThought 98 = .ok (.goto 4, 3) := by decide +kernel
theorem dX4_mayThought_101 : decode cX4_mayThought 101 = .ok (.iconst 0, 1) := by decide +kernel
theorem dX4_mayThought_102 : decode cX4_mayThought 102 = .ok (.ireturn, 1) := by decide +kernel
set_option maxRecDepth 20000 in
theorem ggX4_whoMay_X4_mayThought : GoodIn wsX4_whoMay wsX4_mayThought := goodIn_r _ [8, 9, 10, 11, 7, 12, 13, 14, 15, 16, 17, 18, 19, 20, 21, 22, 23, 24, 25, 26, 27, 28, 29, 30, 31, 32, 33, 34, 35, 36, 37, 38, 39, 40, 41, 42, 43, 44, 45, 46, 47, 48, 49, 50, 51, 52, 53, 54, 55, 56, 57, 58, 59] (by decide +kernel) (by decide +kernel)
set_option maxRecDepth 20000 in
theorem gX4_whoMay_X4_mayThought : GoodIn wsX4_whoMay (wsV RX4 117 RX4 yX4_mayThought wsX4_mayThought) := goodIn_app (goodIn_of _ (by decide +kernel)) ggX4_whoMay_X4_mayThought
theorem dX4_whoMay_0 : decode cX4_whoMay 0 = .ok (.iconst 0, 1) := by decide +kernel
theorem dX4_whoMay_1 : decode cX4_whoMay 1 = .ok (.istore_n 1, 1) := by decide +kernel
theorem dX4_whoMay_2 : decode cX4_whoMay 2 = .ok (.iconst 0, 1) := by decide +kernel
theorem dX4_whoMay_3 : decode cX4_whoMay 3 = .ok (.istore_n 2, 1) := by decide +kernel
theorem dX4_whoMay_4 : decode cX4_whoMay 4 = .ok (.iload_n 2, 1) := by decide +kernel
theorem dX4_whoMay_5 : decode cX4_whoMay 5 = .ok (.aload_n 0, 1) := by decide +kernel
theorem dX4_whoMay_6 : decode cX4_whoMay 6 = .ok (.getfield 88, 3) := by decide +kernel
theorem dX4_whoMay_9 : decode cX4_whoMay 9 = .ok (.if_icmp .ge 38, 3) := by decide +kernel
theorem dX4_whoMay_12 : decode cX4_whoMay 12 = .ok (.iload_n 1, 1) := by decide +kernel
theorem dX4_whoMay_13 : decode cX4_whoMay 13 = .ok (.aload_n 0, 1) := by decide +kernel
theorem dX4_whoMay_14 : decode cX4_whoMay 14 = .ok (.aload_n 0, 1) := by decide +kernel
theorem dX4_whoMay_15 : decode cX4_whoMay 15 = .ok (.getfield 16, 3) := by decide +kernel
theorem dX4_whoMay_18 : decode cX4_whoMay 18 = .ok (.iload_n 2, 1) := by decide +kernel
theorem dX4_whoMay_19 : decode cX4_whoMay 19 = .ok (.iaload, 1) := by decide +kernel
theorem dX4_whoMay_20 : decode cX4_whoMay 20 = .ok (.aload_n 0, 1) := by decide +kernel
theorem dX4_whoMay_21 : decode cX4_whoMay 21 = .ok (.getfield 19, 3) := by decide +kernel
theorem dX4_whoMay_24 : decode cX4_whoMay 24 = .ok (.iload_n 2, 1) := by decide +kernel
theorem dX4_whoMay_25 : decode cX4_whoMay 25 = .ok (.iaload, 1) := by decide +kernel
theorem dX4_whoMay_26 : decode cX4_whoMay 26 = .ok (.invokevirtual 117, 3) := by decide +kernel
theorem dX4_whoMay_29 : decode cX4_whoMay 29 = .ok (.ifCond .eq 9, 3) := by decide +kernel
theorem dX4_whoMay_32 : decode cX4_whoMay 32 = .ok (.iconst 1, 1) := by decide +kernel
theorem dX4_whoMay_33 : decode cX4_whoMay 33 = .ok (.iload_n 2, 1) := by decide +kernel
theorem dX4_whoMay_34 : decode cX4_whoMay 34 = .ok (.ishl, 1) := by decide +kernel
theorem dX4_whoMay_35 : decode cX4_whoMay 35 = .ok (.goto 4, 3) := by decide +kernel
theorem dX4_whoMay_38 : decode cX4_whoMay 38 = .ok (.iconst 0, 1) := by decide +kernel
theorem dX4_whoMay_39 : decode cX4_whoMay 39 = .ok (.ior, 1) := by decide +kernel
theorem dX4_whoMay_40 : decode cX4_whoMay 40 = .ok (.istore_n 1, 1) := by decide +kernel
theorem dX4_whoMay_41 : decode cX4_whoMay 41 = .ok (.iinc 2 1, 3) := by decide +kernel
theorem dX4_whoMay_44 : decode cX4_whoMay 44 = .ok (.goto (-40), 3) := by decide +kernel
theorem dX4_whoMay_47 : decode cX4_whoMay 47 = .ok (.iload_n 1, 1) := by decide +kernel
theorem dX4_whoMay_48 : decode cX4_whoMay 48 = .ok (.ireturn, 1) := by decide +kernel
set_option maxRecDepth 20000 in
theorem ggX4_litresIn_X4_think : GoodIn wsX4_litresIn wsX4_think := goodIn_r _ [5, 6, 7, 8, 4, 9, 10, 11, 12, 13, 14, 15, 20, 21, 22, 23, 24, 25, 26, 27, 28, 29, 30, 31, 32, 33, 34, 35, 36, 37, 38, 39, 40, 41, 42, 43, 44, 45, 46, 47, 48, 49] (by decide +kernel) (by decide +kernel)
set_option maxRecDepth 20000 in
theorem gX4_litresIn_X4_think : GoodIn wsX4_litresIn (wsV RX4 120 RX4 yX4_think wsX4_think) := goodIn_app (goodIn_of _ (by decide +kernel)) ggX4_litresIn_X4_think
set_option maxRecDepth 20000 in
theorem ggX4_litresIn_X4_litresThought : GoodIn wsX4_litresIn wsX4_litresThought := goodIn_r _ [19, 10, 20, 21, 22, 23, 24, 25, 26, 27, 28, 29, 30, 31, 32, 33, 34, 35, 36, 37, 38, 39, 40, 41, 42, 43, 44, 45, 46, 47, 48, 49] (by decide +kernel) (by decide +kernel)
set_option maxRecDepth 20000 in
theorem gX4_litresIn_X4_litresThought : GoodIn wsX4_litresIn (wsV RX4 101 RX4 yX4_litresThought wsX4_litresThought) := goodIn_app (goodIn_of _ (by decide +kernel)) ggX4_litresIn_X4_litresThought
theorem dX4_litresIn_0 : decode cX4_litresIn 0 = .ok (.aload_n 0, 1) := by decide +kernel
theorem dX4_litresIn_1 : decode cX4_litresIn 1 = .ok (.iload_n 1, 1) := by decide +kernel
theorem dX4_litresIn_2 : decode cX4_litresIn 2 = .ok (.invokevirtual 120, 3) := by decide +kernel
theorem dX4_litresIn_5 : decode cX4_litresIn 5 = .ok (.aload_n 0, 1) := by decide +kernel
theorem dX4_litresIn_6 : decode cX4_litresIn 6 = .ok (.invokevirtual 101, 3) := by decide +kernel
theorem dX4_litresIn_9 : decode cX4_litresIn 9 = .ok (.ireturn, 1) := by decide +kernel
set_option maxRecDepth 20000 in
theorem ggX4_caskNow_X4_think : GoodIn wsX4_caskNow wsX4_think := goodIn_r _ [6, 7, 8, 9, 5, 10, 1, 11, 12, 13, 14, 15, 47, 48, 49, 50, 51, 52, 53, 54, 55, 56, 57, 58, 59, 60, 61, 62, 63, 64, 65, 66, 67, 68, 69, 70, 71, 72, 73, 74, 75, 76] (by decide +kernel) (by decide +kernel)
set_option maxRecDepth 20000 in
theorem gX4_caskNow_X4_think : GoodIn wsX4_caskNow (wsV RX4 120 RX4 yX4_think wsX4_think) := goodIn_app (goodIn_of _ (by decide +kernel)) ggX4_caskNow_X4_think
set_option maxRecDepth 20000 in
theorem ggX4_caskNow_X4_litresThought : GoodIn wsX4_caskNow wsX4_litresThought := goodIn_r _ [19, 1, 47, 48, 49, 50, 51, 52, 53, 54, 55, 56, 57, 58, 59, 60, 61, 62, 63, 64, 65, 66, 67, 68, 69, 70, 71, 72, 73, 74, 75, 76] (by decide +kernel) (by decide +kernel)
set_option maxRecDepth 20000 in
theorem gX4_caskNow_X4_litresThought : GoodIn wsX4_caskNow (wsV RX4 101 RX4 yX4_litresThought wsX4_litresThought) := goodIn_app (goodIn_of _ (by decide +kernel)) ggX4_caskNow_X4_litresThought
set_option maxRecDepth 20000 in
theorem ggX4_caskNow_X4_ageThought : GoodIn wsX4_caskNow wsX4_ageThought := goodIn_r _ [23, 1, 24, 16, 17, 18, 5, 19, 25, 26, 27, 28, 47, 48, 49, 50, 51, 52, 53, 54, 55, 56, 57, 58, 59, 60, 61, 62, 63, 64, 65, 66, 67, 68, 69, 70, 71, 72, 73, 74, 75, 76] (by decide +kernel) (by decide +kernel)
set_option maxRecDepth 20000 in
theorem gX4_caskNow_X4_ageThought : GoodIn wsX4_caskNow (wsV RX4 107 RX4 yX4_ageThought wsX4_ageThought) := goodIn_app (goodIn_of _ (by decide +kernel)) ggX4_caskNow_X4_ageThought
set_option maxRecDepth 20000 in
theorem ggX4_caskNow_X4_whoMay : GoodIn wsX4_caskNow wsX4_whoMay := goodIn_r _ [32, 33, 34, 35, 36, 37, 38, 5, 39, 20, 21, 22, 23, 1, 24, 16, 17, 18, 19, 25, 26, 27, 28, 40, 41, 42, 43, 44, 45, 46, 47, 48, 49, 50, 51, 52, 53, 54, 55, 56, 57, 58, 59, 60, 61, 62, 63, 64, 65, 66, 67, 68, 69, 70, 71, 72, 73, 74, 75, 76] (by decide +kernel) (by decide +kernel)
set_option maxRecDepth 20000 in
theorem gX4_caskNow_X4_whoMay : GoodIn wsX4_caskNow (wsV RX4 123 RX4 yX4_whoMay wsX4_whoMay) := goodIn_app (goodIn_of _ (by decide +kernel)) ggX4_caskNow_X4_whoMay
set_option maxRecDepth 20000 in
theorem ggX4_caskNow_X4_yearsThought : GoodIn wsX4_caskNow wsX4_yearsThought := goodIn_r _ [43, 1, 47, 48, 49, 50, 51, 52, 53, 54, 55, 56, 57, 58, 59, 60, 61, 62, 63, 64, 65, 66, 67, 68, 69, 70, 71, 72, 73, 74, 75, 76] (by decide +kernel) (by decide +kernel)
set_option maxRecDepth 20000 in
theorem gX4_caskNow_X4_yearsThought : GoodIn wsX4_caskNow (wsV RX4 110 RX4 yX4_yearsThought wsX4_yearsThought) := goodIn_app (goodIn_of _ (by decide +kernel)) ggX4_caskNow_X4_yearsThought
theorem dX4_caskNow_0 : decode cX4_caskNow 0 = .ok (.aload_n 0, 1) := by decide +kernel
theorem dX4_caskNow_1 : decode cX4_caskNow 1 = .ok (.iload_n 1, 1) := by decide +kernel
theorem dX4_caskNow_2 : decode cX4_caskNow 2 = .ok (.invokevirtual 120, 3) := by decide +kernel
theorem dX4_caskNow_5 : decode cX4_caskNow 5 = .ok (.iload_n 2, 1) := by decide +kernel
theorem dX4_caskNow_6 : decode cX4_caskNow 6 = .ok (.tableswitch 50 0 3 #[30, 35, 40, 45], 30) := by decide +kernel
theorem dX4_caskNow_36 : decode cX4_caskNow 36 = .ok (.aload_n 0, 1) := by decide +kernel
theorem dX4_caskNow_37 : decode cX4_caskNow 37 = .ok (.invokevirtual 101, 3) := by decide +kernel
theorem dX4_caskNow_40 : decode cX4_caskNow 40 = .ok (.ireturn, 1) := by decide +kernel
theorem dX4_caskNow_41 : decode cX4_caskNow 41 = .ok (.aload_n 0, 1) := by decide +kernel
theorem dX4_caskNow_42 : decode cX4_caskNow 42 = .ok (.invokevirtual 107, 3) := by decide +kernel
theorem dX4_caskNow_45 : decode cX4_caskNow 45 = .ok (.ireturn, 1) := by decide +kernel
theorem dX4_caskNow_46 : decode cX4_caskNow 46 = .ok (.aload_n 0, 1) := by decide +kernel
theorem dX4_caskNow_47 : decode cX4_caskNow 47 = .ok (.invokevirtual 123, 3) := by decide +kernel
theorem dX4_caskNow_50 : decode cX4_caskNow 50 = .ok (.ireturn, 1) := by decide +kernel
theorem dX4_caskNow_51 : decode cX4_caskNow 51 = .ok (.aload_n 0, 1) := by decide +kernel
theorem dX4_caskNow_52 : decode cX4_caskNow 52 = .ok (.invokevirtual 110, 3) := by decide +kernel
theorem dX4_caskNow_55 : decode cX4_caskNow 55 = .ok (.ireturn, 1) := by decide +kernel
theorem dX4_caskNow_56 : decode cX4_caskNow 56 = .ok (.aload_n 0, 1) := by decide +kernel
theorem dX4_caskNow_57 : decode cX4_caskNow 57 = .ok (.getfield 13, 3) := by decide +kernel
theorem dX4_caskNow_60 : decode cX4_caskNow 60 = .ok (.iload_n 2, 1) := by decide +kernel
theorem dX4_caskNow_61 : decode cX4_caskNow 61 = .ok (.bipush 10, 2) := by decide +kernel
theorem dX4_caskNow_63 : decode cX4_caskNow 63 = .ok (.isub, 1) := by decide +kernel
theorem dX4_caskNow_64 : decode cX4_caskNow 64 = .ok (.iaload, 1) := by decide +kernel
theorem dX4_caskNow_65 : decode cX4_caskNow 65 = .ok (.ireturn, 1) := by decide +kernel
set_option maxRecDepth 20000 in
theorem ggX4_cask_X4_isCask : GoodIn wsX4_cask wsX4_isCask := goodIn_r _ [5, 6, 7, 8, 4, 9, 59, 60, 61, 62, 63, 64, 65, 66, 67, 68, 69, 70, 71, 72, 73, 74, 75, 76, 77, 78, 79, 80, 81, 82, 83, 84, 85, 86, 87, 88] (by decide +kernel) (by decide +kernel)
set_option maxRecDepth 20000 in
theorem gX4_cask_X4_isCask : GoodIn wsX4_cask (wsV RX4 126 RX4 yX4_isCask wsX4_isCask) := goodIn_app (goodIn_of _ (by decide +kernel)) ggX4_cask_X4_isCask
set_option maxRecDepth 20000 in
theorem ggX4_cask_X4_within : GoodIn wsX4_cask wsX4_within := goodIn_r _ [9] (by decide +kernel) (by decide +kernel)
set_option maxRecDepth 20000 in
theorem gX4_cask_X4_within : GoodIn wsX4_cask (va_wsS RX4 56 yX4_within wsX4_within) := goodIn_app (goodIn_of _ (by decide +kernel)) ggX4_cask_X4_within
set_option maxRecDepth 20000 in
theorem ggX4_cask_X4_caskNow : GoodIn wsX4_cask wsX4_caskNow := goodIn_r _ [13, 14, 15, 16, 17, 4, 18, 19, 20, 21, 22, 23, 24, 25, 26, 27, 28, 29, 30, 31, 32, 33, 34, 35, 36, 37, 38, 39, 40, 41, 42, 43, 44, 45, 46, 47, 48, 49, 50, 51, 52, 53, 54, 55, 56, 57, 58, 59, 60, 61, 62, 63, 64, 65, 66, 67, 68, 69, 70, 71, 72, 73, 74, 75, 76, 77, 78, 79, 80, 81, 82, 83, 84, 85, 86, 87, 88] (by decide +kernel) (by decide +kernel)
set_option maxRecDepth 20000 in
theorem gX4_cask_X4_caskNow : GoodIn wsX4_cask (wsV RX4 130 RX4 yX4_caskNow wsX4_caskNow) := goodIn_app (goodIn_of _ (by decide +kernel)) ggX4_cask_X4_caskNow
theorem dX4_cask_0 : decode cX4_cask 0 = .ok (.aload_n 0, 1) := by decide +kernel
theorem dX4_cask_1 : decode cX4_cask 1 = .ok (.iload_n 1, 1) := by decide +kernel
theorem dX4_cask_2 : decode cX4_cask 2 = .ok (.invokevirtual 126, 3) := by decide +kernel
theorem dX4_cask_5 : decode cX4_cask 5 = .ok (.ifCond .ne 8, 3) := by decide +kernel
theorem dX4_cask_8 : decode cX4_cask 8 = .ok (.bipush (-101), 2) := by decide +kernel
theorem dX4_cask_10 : decode cX4_cask 10 = .ok (.goto 34, 3) := by decide +kernel
theorem dX4_cask_13 : decode cX4_cask 13 = .ok (.iload_n 2, 1) := by decide +kernel
theorem dX4_cask_14 : decode cX4_cask 14 = .ok (.iconst 0, 1) := by decide +kernel
theorem dX4_cask_15 : decode cX4_cask 15 = .ok (.iconst 3, 1) := by decide +kernel
theorem dX4_cask_16 : decode cX4_cask 16 = .ok (.invokestatic 56, 3) := by decide +kernel
theorem dX4_cask_19 : decode cX4_cask 19 = .ok (.ifCond .ne 14, 3) := by decide +kernel
theorem dX4_cask_22 : decode cX4_cask 22 = .ok (.iload_n 2, 1) := by decide +kernel
theorem dX4_cask_23 : decode cX4_cask 23 = .ok (.bipush 10, 2) := by decide +kernel
theorem dX4_cask_25 : decode cX4_cask 25 = .ok (.bipush 19, 2) := by decide +kernel
theorem dX4_cask_27 : decode cX4_cask 27 = .ok (.invokestatic 56, 3) := by decide +kernel
theorem dX4_cask_30 : decode cX4_cask 30 = .ok (.ifCond .eq 12, 3) := by decide +kernel
theorem dX4_cask_33 : decode cX4_cask 33 = .ok (.aload_n 0, 1) := by decide +kernel
theorem dX4_cask_34 : decode cX4_cask 34 = .ok (.iload_n 1, 1) := by decide +kernel
theorem dX4_cask_35 : decode cX4_cask 35 = .ok (.iload_n 2, 1) := by decide +kernel
theorem dX4_cask_36 : decode cX4_cask 36 = .ok (.invokevirtual 130, 3) := by decide +kernel
theorem dX4_cask_39 : decode cX4_cask 39 = .ok (.goto 5, 3) := by decide +kernel
theorem dX4_cask_42 : decode cX4_cask 42 = .ok (.bipush (-102), 2) := by decide +kernel
theorem dX4_cask_44 : decode cX4_cask 44 = .ok (.ireturn, 1) := by decide +kernel
set_option maxRecDepth 20000 in
theorem ggX4_isPerson_X4_within : GoodIn wsX4_isPerson wsX4_within := goodIn_r _ [5] (by decide +kernel) (by decide +kernel)
set_option maxRecDepth 20000 in
theorem gX4_isPerson_X4_within : GoodIn wsX4_isPerson (va_wsS RX4 56 yX4_within wsX4_within) := goodIn_app (goodIn_of _ (by decide +kernel)) ggX4_isPerson_X4_within
theorem dX4_isPerson_0 : decode cX4_isPerson 0 = .ok (.iload_n 1, 1) := by decide +kernel
theorem dX4_isPerson_1 : decode cX4_isPerson 1 = .ok (.iconst 0, 1) := by decide +kernel
theorem dX4_isPerson_2 : decode cX4_isPerson 2 = .ok (.aload_n 0, 1) := by decide +kernel
theorem dX4_isPerson_3 : decode cX4_isPerson 3 = .ok (.getfield 88, 3) := by decide +kernel
theorem dX4_isPerson_6 : decode cX4_isPerson 6 = .ok (.iconst 1, 1) := by decide +kernel
theorem dX4_isPerson_7 : decode cX4_isPerson 7 = .ok (.isub, 1) := by decide +kernel
theorem dX4_isPerson_8 : decode cX4_isPerson 8 = .ok (.invokestatic 56, 3) := by decide +kernel
theorem dX4_isPerson_11 : decode cX4_isPerson 11 = .ok (.ireturn, 1) := by decide +kernel
set_option maxRecDepth 20000 in
theorem ggX4_person_X4_within : GoodIn wsX4_person wsX4_within := goodIn_r _ [9] (by decide +kernel) (by decide +kernel)
set_option maxRecDepth 20000 in
theorem gX4_person_X4_within : GoodIn wsX4_person (va_wsS RX4 56 yX4_within wsX4_within) := goodIn_app (goodIn_of _ (by decide +kernel)) ggX4_person_X4_within
theorem dX4_person_0 : decode cX4_person 0 = .ok (.iload_n 1, 1) := by decide +kernel
theorem dX4_person_1 : decode cX4_person 1 = .ok (.iconst 0, 1) := by decide +kernel
theorem dX4_person_2 : decode cX4_person 2 = .ok (.iconst 4, 1) := by decide +kernel
theorem dX4_person_3 : decode cX4_person 3 = .ok (.invokestatic 56, 3) := by decide +kernel
theorem dX4_person_6 : decode cX4_person 6 = .ok (.ifCond .eq 13, 3) := by decide +kernel
theorem dX4_person_9 : decode cX4_person 9 = .ok (.iload_n 2, 1) := by decide +kernel
theorem dX4_person_10 : decode cX4_person 10 = .ok (.iconst 0, 1) := by decide +kernel
theorem dX4_person_11 : decode cX4_person 11 = .ok (.bipush 9, 2) := by decide +kernel
theorem dX4_person_13 : decode cX4_person 13 = .ok (.invokestatic 56, 3) := by decide +kernel
theorem dX4_person_16 : decode cX4_person 16 = .ok (.ifCond .ne 6, 3) := by decide +kernel
theorem dX4_person_19 : decode cX4_person 19 = .ok (.bipush (-102), 2) := by decide +kernel
theorem dX4_person_21 : decode cX4_person 21 = .ok (.ireturn, 1) := by decide +kernel
theorem dX4_person_22 : decode cX4_person 22 = .ok (.aload_n 0, 1) := by decide +kernel
theorem dX4_person_23 : decode cX4_person 23 = .ok (.getfield 82, 3) := by decide +kernel
theorem dX4_person_26 : decode cX4_person 26 = .ok (.ifCond .ne 6, 3) := by decide +kernel
theorem dX4_person_29 : decode cX4_person 29 = .ok (.bipush (-103), 2) := by decide +kernel
theorem dX4_person_31 : decode cX4_person 31 = .ok (.ireturn, 1) := by decide +kernel
theorem dX4_person_32 : decode cX4_person 32 = .ok (.aload_n 0, 1) := by decide +kernel
theorem dX4_person_33 : decode cX4_person 33 = .ok (.getfield 88, 3) := by decide +kernel
theorem dX4_person_36 : decode cX4_person 36 = .ok (.iconst 5, 1) := by decide +kernel
theorem dX4_person_37 : decode cX4_person 37 = .ok (.if_icmp .ne 6, 3) := by decide +kernel
theorem dX4_person_40 : decode cX4_person 40 = .ok (.bipush (-104), 2) := by decide +kernel
theorem dX4_person_42 : decode cX4_person 42 = .ok (.ireturn, 1) := by decide +kernel
theorem dX4_person_43 : decode cX4_person 43 = .ok (.aload_n 0, 1) := by decide +kernel
theorem dX4_person_44 : decode cX4_person 44 = .ok (.getfield 16, 3) := by decide +kernel
theorem dX4_person_47 : decode cX4_person 47 = .ok (.aload_n 0, 1) := by decide +kernel
theorem dX4_person_48 : decode cX4_person 48 = .ok (.getfield 88, 3) := by decide +kernel
theorem dX4_person_51 : decode cX4_person 51 = .ok (.iload_n 1, 1) := by decide +kernel
theorem dX4_person_52 : decode cX4_person 52 = .ok (.iastore, 1) := by decide +kernel
theorem dX4_person_53 : decode cX4_person 53 = .ok (.aload_n 0, 1) := by decide +kernel
theorem dX4_person_54 : decode cX4_person 54 = .ok (.getfield 19, 3) := by decide +kernel
theorem dX4_person_57 : decode cX4_person 57 = .ok (.aload_n 0, 1) := by decide +kernel
theorem dX4_person_58 : decode cX4_person 58 = .ok (.getfield 88, 3) := by decide +kernel
theorem dX4_person_61 : decode cX4_person 61 = .ok (.iload_n 2, 1) := by decide +kernel
theorem dX4_person_62 : decode cX4_person 62 = .ok (.iastore, 1) := by decide +kernel
theorem dX4_person_63 : decode cX4_person 63 = .ok (.aload_n 0, 1) := by decide +kernel
theorem dX4_person_64 : decode cX4_person 64 = .ok (.getfield 22, 3) := by decide +kernel
theorem dX4_person_67 : decode cX4_person 67 = .ok (.aload_n 0, 1) := by decide +kernel
theorem dX4_person_68 : decode cX4_person 68 = .ok (.getfield 88, 3) := by decide +kernel
theorem dX4_person_71 : decode cX4_person 71 = .ok (.iconst 0, 1) := by decide +kernel
theorem dX4_person_72 : decode cX4_person 72 = .ok (.iastore, 1) := by decide +kernel
theorem dX4_person_73 : decode cX4_person 73 = .ok (.aload_n 0, 1) := by decide +kernel
theorem dX4_person_74 : decode cX4_person 74 = .ok (.dup, 1) := by decide +kernel
theorem dX4_person_75 : decode cX4_person 75 = .ok (.getfield 88, 3) := by decide +kernel
theorem dX4_person_78 : decode cX4_person 78 = .ok (.iconst 1, 1) := by decide +kernel
theorem dX4_person_79 : decode cX4_person 79 = .ok (.iadd, 1) := by decide +kernel
theorem dX4_person_80 : decode cX4_person 80 = .ok (.putfield 88, 3) := by decide +kernel
theorem dX4_person_83 : decode cX4_person 83 = .ok (.aload_n 0, 1) := by decide +kernel
theorem dX4_person_84 : decode cX4_person 84 = .ok (.getfield 88, 3) := by decide +kernel
theorem dX4_person_87 : decode cX4_person 87 = .ok (.iconst 1, 1) := by decide +kernel
theorem dX4_person_88 : decode cX4_person 88 = .ok (.isub, 1) := by decide +kernel
theorem dX4_person_89 : decode cX4_person 89 = .ok (.ireturn, 1) := by decide +kernel
set_option maxRecDepth 20000 in
theorem ggX4_mayOf_X4_think : GoodIn wsX4_mayOf wsX4_think := goodIn_r _ [8, 9, 10, 11, 7, 12, 13, 14, 15, 16, 17, 18, 43, 44, 45, 46, 47, 48, 49, 50, 51, 52, 53, 54, 55, 56, 57, 58, 59, 60, 61, 62, 63, 64, 65, 66, 67, 68, 69, 70, 71, 72] (by decide +kernel) (by decide +kernel)
set_option maxRecDepth 20000 in
theorem gX4_mayOf_X4_think : GoodIn wsX4_mayOf (wsV RX4 120 RX4 yX4_think wsX4_think) := goodIn_app (goodIn_of _ (by decide +kernel)) ggX4_mayOf_X4_think
set_option maxRecDepth 20000 in
theorem ggX4_mayOf_X4_mayThought : GoodIn wsX4_mayOf wsX4_mayThought := goodIn_r _ [22, 23, 24, 25, 7, 26, 13, 27, 28, 29, 30, 31, 32, 33, 34, 35, 36, 37, 38, 39, 40, 41, 42, 43, 44, 45, 46, 47, 48, 49, 50, 51, 52, 53, 54, 55, 56, 57, 58, 59, 60, 61, 62, 63, 64, 65, 66, 67, 68, 69, 70, 71, 72] (by decide +kernel) (by decide +kernel)
set_option maxRecDepth 20000 in
theorem gX4_mayOf_X4_mayThought : GoodIn wsX4_mayOf (wsV RX4 117 RX4 yX4_mayThought wsX4_mayThought) := goodIn_app (goodIn_of _ (by decide +kernel)) ggX4_mayOf_X4_mayThought
theorem dX4_mayOf_0 : decode cX4_mayOf 0 = .ok (.iconst 0, 1) := by decide +kernel
theorem dX4_mayOf_1 : decode cX4_mayOf 1 = .ok (.istore_n 2, 1) := by decide +kernel
theorem dX4_mayOf_2 : decode cX4_mayOf 2 = .ok (.iconst 0, 1) := by decide +kernel
theorem dX4_mayOf_3 : decode cX4_mayOf 3 = .ok (.istore_n 3, 1) := by decide +kernel
theorem dX4_mayOf_4 : decode cX4_mayOf 4 = .ok (.iload_n 3, 1) := by decide +kernel
theorem dX4_mayOf_5 : decode cX4_mayOf 5 = .ok (.aload_n 0, 1) := by decide +kernel
theorem dX4_mayOf_6 : decode cX4_mayOf 6 = .ok (.getfield 82, 3) := by decide +kernel
theorem dX4_mayOf_9 : decode cX4_mayOf 9 = .ok (.if_icmp .ge 43, 3) := by decide +kernel
theorem dX4_mayOf_12 : decode cX4_mayOf 12 = .ok (.aload_n 0, 1) := by decide +kernel
theorem dX4_mayOf_13 : decode cX4_mayOf 13 = .ok (.iload_n 3, 1) := by decide +kernel
theorem dX4_mayOf_14 : decode cX4_mayOf 14 = .ok (.invokevirtual 120, 3) := by decide +kernel
theorem dX4_mayOf_17 : decode cX4_mayOf 17 = .ok (.iload_n 2, 1) := by decide +kernel
theorem dX4_mayOf_18 : decode cX4_mayOf 18 = .ok (.aload_n 0, 1) := by decide +kernel
theorem dX4_mayOf_19 : decode cX4_mayOf 19 = .ok (.aload_n 0, 1) := by decide +kernel
theorem dX4_mayOf_20 : decode cX4_mayOf 20 = .ok (.getfield 16, 3) := by decide +kernel
theorem dX4_mayOf_23 : decode cX4_mayOf 23 = .ok (.iload_n 1, 1) := by decide +kernel
theorem dX4_mayOf_24 : decode cX4_mayOf 24 = .ok (.iaload, 1) := by decide +kernel
theorem dX4_mayOf_25 : decode cX4_mayOf 25 = .ok (.aload_n 0, 1) := by decide +kernel
theorem dX4_mayOf_26 : decode cX4_mayOf 26 = .ok (.getfield 19, 3) := by decide +kernel
theorem dX4_mayOf_29 : decode cX4_mayOf 29 = .ok (.iload_n 1, 1) := by decide +kernel
theorem dX4_mayOf_30 : decode cX4_mayOf 30 = .ok (.iaload, 1) := by decide +kernel
theorem dX4_mayOf_31 : decode cX4_mayOf 31 = .ok (.invokevirtual 117, 3) := by decide +kernel
theorem dX4_mayOf_34 : decode cX4_mayOf 34 = .ok (.ifCond .eq 9, 3) := by decide +kernel
theorem dX4_mayOf_37 : decode cX4_mayOf 37 = .ok (.iconst 1, 1) := by decide +kernel
theorem dX4_mayOf_38 : decode cX4_mayOf 38 = .ok (.iload_n 3, 1) := by decide +kernel
theorem dX4_mayOf_39 : decode cX4_mayOf 39 = .ok (.ishl, 1) := by decide +kernel
theorem dX4_mayOf_40 : decode cX4_mayOf 40 = .ok (.goto 4, 3) := by decide +kernel
theorem dX4_mayOf_43 : decode cX4_mayOf 43 = .ok (.iconst 0, 1) := by decide +kernel
theorem dX4_mayOf_44 : decode cX4_mayOf 44 = .ok (.ior, 1) := by decide +kernel
theorem dX4_mayOf_45 : decode cX4_mayOf 45 = .ok (.istore_n 2, 1) := by decide +kernel
theorem dX4_mayOf_46 : decode cX4_mayOf 46 = .ok (.iinc 3 1, 3) := by decide +kernel
theorem dX4_mayOf_49 : decode cX4_mayOf 49 = .ok (.goto (-45), 3) := by decide +kernel
theorem dX4_mayOf_52 : decode cX4_mayOf 52 = .ok (.iload_n 2, 1) := by decide +kernel
theorem dX4_mayOf_53 : decode cX4_mayOf 53 = .ok (.ireturn, 1) := by decide +kernel
set_option maxRecDepth 20000 in
theorem ggX4_personNow_X4_mayOf : GoodIn wsX4_personNow wsX4_mayOf := goodIn_r _ [8, 9, 1, 2, 10, 11, 12, 7, 13, 14, 15, 16, 17, 18, 19, 20, 21, 22, 23, 24, 25, 26, 27, 28, 29, 30, 31, 32, 33, 34, 35, 36, 37, 38, 39, 40, 41, 42, 43, 44, 45, 46, 47, 48, 49, 50, 51, 52, 53, 54, 55, 56, 57, 58, 59, 60, 61, 62, 63, 64, 65, 66, 67, 68, 69, 70, 71, 72, 73, 74, 75, 76, 77] (by decide +kernel) (by decide +kernel)
set_option maxRecDepth 20000 in
theorem gX4_personNow_X4_mayOf : GoodIn wsX4_personNow (wsV RX4 134 RX4 yX4_mayOf wsX4_mayOf) := goodIn_app (goodIn_of _ (by decide +kernel)) ggX4_personNow_X4_mayOf
theorem dX4_personNow_0 : decode cX4_personNow 0 = .ok (.iload_n 2, 1) := by decide +kernel
theorem dX4_personNow_1 : decode cX4_personNow 1 = .ok (.ifCond .ne 12, 3) := by decide +kernel
theorem dX4_personNow_4 : decode cX4_personNow 4 = .ok (.aload_n 0, 1) := by decide +kernel
theorem dX4_personNow_5 : decode cX4_personNow 5 = .ok (.getfield 16, 3) := by decide +kernel
theorem dX4_personNow_8 : decode cX4_personNow 8 = .ok (.iload_n 1, 1) := by decide +kernel
theorem dX4_personNow_9 : decode cX4_personNow 9 = .ok (.iaload, 1) := by decide +kernel
theorem dX4_personNow_10 : decode cX4_personNow 10 = .ok (.goto 36, 3) := by decide +kernel
theorem dX4_personNow_13 : decode cX4_personNow 13 = .ok (.iload_n 2, 1) := by decide +kernel
theorem dX4_personNow_14 : decode cX4_personNow 14 = .ok (.iconst 1, 1) := by decide +kernel
theorem dX4_personNow_15 : decode cX4_personNow 15 = .ok (.if_icmp .ne 12, 3) := by decide +kernel
theorem dX4_personNow_18 : decode cX4_personNow 18 = .ok (.aload_n 0, 1) := by decide +kernel
theorem dX4_personNow_19 : decode cX4_personNow 19 = .ok (.getfield 19, 3) := by decide +kernel
theorem dX4_personNow_22 : decode cX4_personNow 22 = .ok (.iload_n 1, 1) := by decide +kernel
theorem dX4_personNow_23 : decode cX4_personNow 23 = .ok (.iaload, 1) := by decide +kernel
theorem dX4_personNow_24 : decode cX4_personNow 24 = .ok (.goto 22, 3) := by decide +kernel
theorem dX4_personNow_27 : decode cX4_personNow 27 = .ok (.iload_n 2, 1) := by decide +kernel
theorem dX4_personNow_28 : decode cX4_personNow 28 = .ok (.iconst 2, 1) := by decide +kernel
theorem dX4_personNow_29 : decode cX4_personNow 29 = .ok (.if_icmp .ne 11, 3) := by decide +kernel
theorem dX4_personNow_32 : decode cX4_personNow 32 = .ok (.aload_n 0, 1) := by decide +kernel
theorem dX4_personNow_33 : decode cX4_personNow 33 = .ok (.iload_n 1, 1) := by decide +kernel
theorem dX4_personNow_34 : decode cX4_personNow 34 = .ok (.invokevirtual 134, 3) := by decide +kernel
theorem dX4_personNow_37 : decode cX4_personNow 37 = .ok (.goto 9, 3) := by decide +kernel
theorem dX4_personNow_40 : decode cX4_personNow 40 = .ok (.aload_n 0, 1) := by decide +kernel
theorem dX4_personNow_41 : decode cX4_personNow 41 = .ok (.getfield 22, 3) := by decide +kernel
theorem dX4_personNow_44 : decode cX4_personNow 44 = .ok (.iload_n 1, 1) := by decide +kernel
theorem dX4_personNow_45 : decode cX4_personNow 45 = .ok (.iaload, 1) := by decide +kernel
theorem dX4_personNow_46 : decode cX4_personNow 46 = .ok (.ireturn, 1) := by decide +kernel
set_option maxRecDepth 20000 in
theorem ggX4_about_X4_isPerson : GoodIn wsX4_about wsX4_isPerson := goodIn_r _ [5, 6, 7, 8, 4, 9, 60, 61, 62, 63, 64, 65, 66, 67, 68, 69, 70, 71, 72, 73, 74, 75, 76, 77, 78, 79, 80, 81, 82, 83, 84, 85, 86, 87, 88, 89] (by decide +kernel) (by decide +kernel)
set_option maxRecDepth 20000 in
theorem gX4_about_X4_isPerson : GoodIn wsX4_about (wsV RX4 137 RX4 yX4_isPerson wsX4_isPerson) := goodIn_app (goodIn_of _ (by decide +kernel)) ggX4_about_X4_isPerson
set_option maxRecDepth 20000 in
theorem ggX4_about_X4_within : GoodIn wsX4_about wsX4_within := goodIn_r _ [9] (by decide +kernel) (by decide +kernel)
set_option maxRecDepth 20000 in
theorem gX4_about_X4_within : GoodIn wsX4_about (va_wsS RX4 56 yX4_within wsX4_within) := goodIn_app (goodIn_of _ (by decide +kernel)) ggX4_about_X4_within
set_option maxRecDepth 20000 in
theorem ggX4_about_X4_personNow : GoodIn wsX4_about wsX4_personNow := goodIn_r _ [13, 14, 15, 16, 17, 18, 19, 4, 20, 21, 22, 23, 24, 25, 26, 27, 28, 29, 30, 31, 32, 33, 34, 35, 36, 37, 38, 39, 40, 41, 42, 43, 44, 45, 46, 47, 48, 49, 50, 51, 52, 53, 54, 55, 56, 57, 58, 59, 60, 61, 62, 63, 64, 65, 66, 67, 68, 69, 70, 71, 72, 73, 74, 75, 76, 77, 78, 79, 80, 81, 82, 83, 84, 85, 86, 87, 88, 89] (by decide +kernel) (by decide +kernel)
set_option maxRecDepth 20000 in
theorem gX4_about_X4_personNow : GoodIn wsX4_about (wsV RX4 140 RX4 yX4_personNow wsX4_personNow) := goodIn_app (goodIn_of _ (by decide +kernel)) ggX4_about_X4_personNow
theorem dX4_about_0 : decode cX4_about 0 = .ok (.aload_n 0, 1) := by decide +kernel
theorem dX4_about_1 : decode cX4_about 1 = .ok (.iload_n 1, 1) := by decide +kernel
theorem dX4_about_2 : decode cX4_about 2 = .ok (.invokevirtual 137, 3) := by decide +kernel
theorem dX4_about_5 : decode cX4_about 5 = .ok (.ifCond .ne 8, 3) := by decide +kernel
theorem dX4_about_8 : decode cX4_about 8 = .ok (.bipush (-101), 2) := by decide +kernel
theorem dX4_about_10 : decode cX4_about 10 = .ok (.goto 23, 3) := by decide +kernel
theorem dX4_about_13 : decode cX4_about 13 = .ok (.iload_n 2, 1) := by decide +kernel
theorem dX4_about_14 : decode cX4_about 14 = .ok (.iconst 0, 1) := by decide +kernel
theorem dX4_about_15 : decode cX4_about 15 = .ok (.iconst 3, 1) := by decide +kernel
theorem dX4_about_16 : decode cX4_about 16 = .ok (.invokestatic 56, 3) := by decide +kernel
theorem dX4_about_19 : decode cX4_about 19 = .ok (.ifCond .eq 12, 3) := by decide +kernel
theorem dX4_about_22 : decode cX4_about 22 = .ok (.aload_n 0, 1) := by decide +kernel
theorem dX4_about_23 : decode cX4_about 23 = .ok (.iload_n 1, 1) := by decide +kernel
theorem dX4_about_24 : decode cX4_about 24 = .ok (.iload_n 2, 1) := by decide +kernel
theorem dX4_about_25 : decode cX4_about 25 = .ok (.invokevirtual 140, 3) := by decide +kernel
theorem dX4_about_28 : decode cX4_about 28 = .ok (.goto 5, 3) := by decide +kernel
theorem dX4_about_31 : decode cX4_about 31 = .ok (.bipush (-102), 2) := by decide +kernel
theorem dX4_about_33 : decode cX4_about 33 = .ok (.ireturn, 1) := by decide +kernel
set_option maxRecDepth 20000 in
theorem ggX4_as_X4_isPerson : GoodIn wsX4_as wsX4_isPerson := goodIn_r _ [6, 7, 8, 9, 5, 10, 11, 12, 13, 14, 15, 16, 17, 18, 19, 20, 21, 22, 23, 24, 25, 26, 27, 28, 29, 30, 31, 32, 33, 34, 35, 36, 37, 38, 39, 40] (by decide +kernel) (by decide +kernel)
set_option maxRecDepth 20000 in
theorem gX4_as_X4_isPerson : GoodIn wsX4_as (wsV RX4 137 RX4 yX4_isPerson wsX4_isPerson) := goodIn_app (goodIn_of _ (by decide +kernel)) ggX4_as_X4_isPerson
set_option maxRecDepth 20000 in
theorem ggX4_as_X4_within : GoodIn wsX4_as wsX4_within := goodIn_r _ [10] (by decide +kernel) (by decide +kernel)
set_option maxRecDepth 20000 in
theorem gX4_as_X4_within : GoodIn wsX4_as (va_wsS RX4 56 yX4_within wsX4_within) := goodIn_app (goodIn_of _ (by decide +kernel)) ggX4_as_X4_within
theorem dX4_as_0 : decode cX4_as 0 = .ok (.aload_n 0, 1) := by decide +kernel
theorem dX4_as_1 : decode cX4_as 1 = .ok (.iload_n 1, 1) := by decide +kernel
theorem dX4_as_2 : decode cX4_as 2 = .ok (.invokevirtual 137, 3) := by decide +kernel
theorem dX4_as_5 : decode cX4_as 5 = .ok (.ifCond .ne 6, 3) := by decide +kernel
theorem dX4_as_8 : decode cX4_as 8 = .ok (.bipush (-101), 2) := by decide +kernel
theorem dX4_as_10 : decode cX4_as 10 = .ok (.ireturn, 1) := by decide +kernel
theorem dX4_as_11 : decode cX4_as 11 = .ok (.iload_n 2, 1) := by decide +kernel
theorem dX4_as_12 : decode cX4_as 12 = .ok (.iconst 0, 1) := by decide +kernel
theorem dX4_as_13 : decode cX4_as 13 = .ok (.iconst 4, 1) := by decide +kernel
theorem dX4_as_14 : decode cX4_as 14 = .ok (.invokestatic 56, 3) := by decide +kernel
theorem dX4_as_17 : decode cX4_as 17 = .ok (.ifCond .ne 6, 3) := by decide +kernel
theorem dX4_as_20 : decode cX4_as 20 = .ok (.bipush (-102), 2) := by decide +kernel
theorem dX4_as_22 : decode cX4_as 22 = .ok (.ireturn, 1) := by decide +kernel
theorem dX4_as_23 : decode cX4_as 23 = .ok (.aload_n 0, 1) := by decide +kernel
theorem dX4_as_24 : decode cX4_as 24 = .ok (.getfield 16, 3) := by decide +kernel
theorem dX4_as_27 : decode cX4_as 27 = .ok (.iload_n 1, 1) := by decide +kernel
theorem dX4_as_28 : decode cX4_as 28 = .ok (.iaload, 1) := by decide +kernel
theorem dX4_as_29 : decode cX4_as 29 = .ok (.istore_n 3, 1) := by decide +kernel
theorem dX4_as_30 : decode cX4_as 30 = .ok (.iload_n 2, 1) := by decide +kernel
theorem dX4_as_31 : decode cX4_as 31 = .ok (.ifCond .eq 18, 3) := by decide +kernel
theorem dX4_as_34 : decode cX4_as 34 = .ok (.iload_n 3, 1) := by decide +kernel
theorem dX4_as_35 : decode cX4_as 35 = .ok (.iload_n 2, 1) := by decide +kernel
theorem dX4_as_36 : decode cX4_as 36 = .ok (.if_icmp .eq 13, 3) := by decide +kernel
theorem dX4_as_39 : decode cX4_as 39 = .ok (.iload_n 2, 1) := by decide +kernel
theorem dX4_as_40 : decode cX4_as 40 = .ok (.iconst 1, 1) := by decide +kernel
theorem dX4_as_41 : decode cX4_as 41 = .ok (.if_icmp .ne 12, 3) := by decide +kernel
theorem dX4_as_44 : decode cX4_as 44 = .ok (.iload_n 3, 1) := by decide +kernel
theorem dX4_as_45 : decode cX4_as 45 = .ok (.iconst 4, 1) := by decide +kernel
theorem dX4_as_46 : decode cX4_as 46 = .ok (.if_icmp .ne 7, 3) := by decide +kernel
theorem dX4_as_49 : decode cX4_as 49 = .ok (.iload_n 1, 1) := by decide +kernel
theorem dX4_as_50 : decode cX4_as 50 = .ok (.goto 4, 3) := by decide +kernel
theorem dX4_as_53 : decode cX4_as 53 = .ok (.iconst (-1), 1) := by decide +kernel
theorem dX4_as_54 : decode cX4_as 54 = .ok (.ireturn, 1) := by decide +kernel
set_option maxRecDepth 20000 in
theorem ggX4_latestIn_X4_think : GoodIn wsX4_latestIn wsX4_think := goodIn_r _ [5, 6, 7, 8, 4, 9, 10, 11, 12, 13, 14, 15, 20, 21, 22, 23, 24, 25, 26, 27, 28, 29, 30, 31, 32, 33, 34, 35, 36, 37, 38, 39, 40, 41, 42, 43, 44, 45, 46, 47, 48, 49] (by decide +kernel) (by decide +kernel)
set_option maxRecDepth 20000 in
theorem gX4_latestIn_X4_think : GoodIn wsX4_latestIn (wsV RX4 120 RX4 yX4_think wsX4_think) := goodIn_app (goodIn_of _ (by decide +kernel)) ggX4_latestIn_X4_think
set_option maxRecDepth 20000 in
theorem ggX4_latestIn_X4_latestThought : GoodIn wsX4_latestIn wsX4_latestThought := goodIn_r _ [19, 10, 20, 21, 22, 23, 24, 25, 26, 27, 28, 29, 30, 31, 32, 33, 34, 35, 36, 37, 38, 39, 40, 41, 42, 43, 44, 45, 46, 47, 48, 49] (by decide +kernel) (by decide +kernel)
set_option maxRecDepth 20000 in
theorem gX4_latestIn_X4_latestThought : GoodIn wsX4_latestIn (wsV RX4 104 RX4 yX4_latestThought wsX4_latestThought) := goodIn_app (goodIn_of _ (by decide +kernel)) ggX4_latestIn_X4_latestThought
theorem dX4_latestIn_0 : decode cX4_latestIn 0 = .ok (.aload_n 0, 1) := by decide +kernel
theorem dX4_latestIn_1 : decode cX4_latestIn 1 = .ok (.iload_n 1, 1) := by decide +kernel
theorem dX4_latestIn_2 : decode cX4_latestIn 2 = .ok (.invokevirtual 120, 3) := by decide +kernel
theorem dX4_latestIn_5 : decode cX4_latestIn 5 = .ok (.aload_n 0, 1) := by decide +kernel
theorem dX4_latestIn_6 : decode cX4_latestIn 6 = .ok (.invokevirtual 104, 3) := by decide +kernel
theorem dX4_latestIn_9 : decode cX4_latestIn 9 = .ok (.ireturn, 1) := by decide +kernel
set_option maxRecDepth 20000 in
theorem ggX4_drink_X4_isPerson : GoodIn wsX4_drink wsX4_isPerson := goodIn_r _ [9, 10, 11, 12, 8, 13, 60, 61, 62, 63, 64, 65, 66, 67, 68, 69, 70, 71, 72, 73, 74, 75, 76, 77, 78, 79, 80, 81, 82, 83, 84, 85, 86, 87, 88, 89] (by decide +kernel) (by decide +kernel)
set_option maxRecDepth 20000 in
theorem gX4_drink_X4_isPerson : GoodIn wsX4_drink (wsV RX4 137 RX4 yX4_isPerson wsX4_isPerson) := goodIn_app (goodIn_of _ (by decide +kernel)) ggX4_drink_X4_isPerson
set_option maxRecDepth 20000 in
theorem ggX4_drink_X4_isCask : GoodIn wsX4_drink wsX4_isCask := goodIn_r _ [17, 18, 11, 12, 8, 13, 60, 61, 62, 63, 64, 65, 66, 67, 68, 69, 70, 71, 72, 73, 74, 75, 76, 77, 78, 79, 80, 81, 82, 83, 84, 85, 86, 87, 88, 89] (by decide +kernel) (by decide +kernel)
set_option maxRecDepth 20000 in
theorem gX4_drink_X4_isCask : GoodIn wsX4_drink (wsV RX4 126 RX4 yX4_isCask wsX4_isCask) := goodIn_app (goodIn_of _ (by decide +kernel)) ggX4_drink_X4_isCask
set_option maxRecDepth 20000 in
theorem ggX4_drink_X4_latestIn : GoodIn wsX4_drink wsX4_latestIn := goodIn_r _ [22, 23, 24, 25, 8, 26, 27, 28, 29, 30, 31, 32, 33, 34, 35, 3, 36, 37, 38, 39, 60, 61, 62, 63, 64, 65, 66, 67, 68, 69, 70, 71, 72, 73, 74, 75, 76, 77, 78, 79, 80, 81, 82, 83, 84, 85, 86, 87, 88, 89] (by decide +kernel) (by decide +kernel)
set_option maxRecDepth 20000 in
theorem gX4_drink_X4_latestIn : GoodIn wsX4_drink (wsV RX4 143 RX4 yX4_latestIn wsX4_latestIn) := goodIn_app (goodIn_of _ (by decide +kernel)) ggX4_drink_X4_latestIn
set_option maxRecDepth 20000 in
theorem ggX4_drink_X4_mayThought : GoodIn wsX4_drink wsX4_mayThought := goodIn_r _ [43, 44, 45, 46, 8, 47, 31, 48, 49, 50, 51, 52, 36, 37, 38, 39, 53, 54, 55, 56, 57, 58, 59, 60, 61, 62, 63, 64, 65, 66, 67, 68, 69, 70, 71, 72, 73, 74, 75, 76, 77, 78, 79, 80, 81, 82, 83, 84, 85, 86, 87, 88, 89] (by decide +kernel) (by decide +kernel)
set_option maxRecDepth 20000 in
theorem gX4_drink_X4_mayThought : GoodIn wsX4_drink (wsV RX4 117 RX4 yX4_mayThought wsX4_mayThought) := goodIn_app (goodIn_of _ (by decide +kernel)) ggX4_drink_X4_mayThought
theorem dX4_drink_0 : decode cX4_drink 0 = .ok (.aload_n 0, 1) := by decide +kernel
theorem dX4_drink_1 : decode cX4_drink 1 = .ok (.iload_n 1, 1) := by decide +kernel
theorem dX4_drink_2 : decode cX4_drink 2 = .ok (.invokevirtual 137, 3) := by decide +kernel
theorem dX4_drink_5 : decode cX4_drink 5 = .ok (.ifCond .eq 11, 3) := by decide +kernel
theorem dX4_drink_8 : decode cX4_drink 8 = .ok (.aload_n 0, 1) := by decide +kernel
theorem dX4_drink_9 : decode cX4_drink 9 = .ok (.iload_n 2, 1) := by decide +kernel
theorem dX4_drink_10 : decode cX4_drink 10 = .ok (.invokevirtual 126, 3) := by decide +kernel
theorem dX4_drink_13 : decode cX4_drink 13 = .ok (.ifCond .ne 6, 3) := by decide +kernel
theorem dX4_drink_16 : decode cX4_drink 16 = .ok (.bipush (-101), 2) := by decide +kernel
theorem dX4_drink_18 : decode cX4_drink 18 = .ok (.ireturn, 1) := by decide +kernel
theorem dX4_drink_19 : decode cX4_drink 19 = .ok (.aload_n 0, 1) := by decide +kernel
theorem dX4_drink_20 : decode cX4_drink 20 = .ok (.iload_n 2, 1) := by decide +kernel
theorem dX4_drink_21 : decode cX4_drink 21 = .ok (.invokevirtual 143, 3) := by decide +kernel
theorem dX4_drink_24 : decode cX4_drink 24 = .ok (.istore_n 3, 1) := by decide +kernel
theorem dX4_drink_25 : decode cX4_drink 25 = .ok (.iload_n 3, 1) := by decide +kernel
theorem dX4_drink_26 : decode cX4_drink 26 = .ok (.iconst (-1), 1) := by decide +kernel
theorem dX4_drink_27 : decode cX4_drink 27 = .ok (.if_icmp .ne 6, 3) := by decide +kernel
theorem dX4_drink_30 : decode cX4_drink 30 = .ok (.bipush (-103), 2) := by decide +kernel
theorem dX4_drink_32 : decode cX4_drink 32 = .ok (.ireturn, 1) := by decide +kernel
theorem dX4_drink_33 : decode cX4_drink 33 = .ok (.aload_n 0, 1) := by decide +kernel
theorem dX4_drink_34 : decode cX4_drink 34 = .ok (.aload_n 0, 1) := by decide +kernel
theorem dX4_drink_35 : decode cX4_drink 35 = .ok (.getfield 16, 3) := by decide +kernel
theorem dX4_drink_38 : decode cX4_drink 38 = .ok (.iload_n 1, 1) := by decide +kernel
theorem dX4_drink_39 : decode cX4_drink 39 = .ok (.iaload, 1) := by decide +kernel
theorem dX4_drink_40 : decode cX4_drink 40 = .ok (.aload_n 0, 1) := by decide +kernel
theorem dX4_drink_41 : decode cX4_drink 41 = .ok (.getfield 19, 3) := by decide +kernel
theorem dX4_drink_44 : decode cX4_drink 44 = .ok (.iload_n 1, 1) := by decide +kernel
theorem dX4_drink_45 : decode cX4_drink 45 = .ok (.iaload, 1) := by decide +kernel
theorem dX4_drink_46 : decode cX4_drink 46 = .ok (.invokevirtual 117, 3) := by decide +kernel
theorem dX4_drink_49 : decode cX4_drink 49 = .ok (.ifCond .eq 7, 3) := by decide +kernel
theorem dX4_drink_52 : decode cX4_drink 52 = .ok (.iconst 0, 1) := by decide +kernel
theorem dX4_drink_53 : decode cX4_drink 53 = .ok (.goto 4, 3) := by decide +kernel
theorem dX4_drink_56 : decode cX4_drink 56 = .ok (.iconst 1, 1) := by decide +kernel
theorem dX4_drink_57 : decode cX4_drink 57 = .ok (.istore 4, 2) := by decide +kernel
theorem dX4_drink_59 : decode cX4_drink 59 = .ok (.aload_n 0, 1) := by decide +kernel
theorem dX4_drink_60 : decode cX4_drink 60 = .ok (.getfield 7, 3) := by decide +kernel
theorem dX4_drink_63 : decode cX4_drink 63 = .ok (.bipush 10, 2) := by decide +kernel
theorem dX4_drink_65 : decode cX4_drink 65 = .ok (.iload_n 2, 1) := by decide +kernel
theorem dX4_drink_66 : decode cX4_drink 66 = .ok (.imul, 1) := by decide +kernel
theorem dX4_drink_67 : decode cX4_drink 67 = .ok (.iload_n 3, 1) := by decide +kernel
theorem dX4_drink_68 : decode cX4_drink 68 = .ok (.iadd, 1) := by decide +kernel
theorem dX4_drink_69 : decode cX4_drink 69 = .ok (.dup2, 1) := by decide +kernel
theorem dX4_drink_70 : decode cX4_drink 70 = .ok (.iaload, 1) := by decide +kernel
theorem dX4_drink_71 : decode cX4_drink 71 = .ok (.iconst 1, 1) := by decide +kernel
theorem dX4_drink_72 : decode cX4_drink 72 = .ok (.isub, 1) := by decide +kernel
theorem dX4_drink_73 : decode cX4_drink 73 = .ok (.iastore, 1) := by decide +kernel
theorem dX4_drink_74 : decode cX4_drink 74 = .ok (.aload_n 0, 1) := by decide +kernel
theorem dX4_drink_75 : decode cX4_drink 75 = .ok (.getfield 22, 3) := by decide +kernel
theorem dX4_drink_78 : decode cX4_drink 78 = .ok (.iload_n 1, 1) := by decide +kernel
theorem dX4_drink_79 : decode cX4_drink 79 = .ok (.dup2, 1) := by decide +kernel
theorem dX4_drink_80 : decode cX4_drink 80 = .ok (.iaload, 1) := by decide +kernel
theorem dX4_drink_81 : decode cX4_drink 81 = .ok (.iload 4, 2) := by decide +kernel
theorem dX4_drink_83 : decode cX4_drink 83 = .ok (.iadd, 1) := by decide +kernel
theorem dX4_drink_84 : decode cX4_drink 84 = .ok (.iastore, 1) := by decide +kernel
theorem dX4_drink_85 : decode cX4_drink 85 = .ok (.iload 4, 2) := by decide +kernel
theorem dX4_drink_87 : decode cX4_drink 87 = .ok (.ireturn, 1) := by decide +kernel
set_option maxRecDepth 20000 in
theorem ggX4_pourOne_X4_latestIn : GoodIn wsX4_pourOne wsX4_latestIn := goodIn_r _ [6, 7, 8, 9, 5, 10, 11, 12, 13, 14, 15, 16, 17, 18, 19, 1, 20, 21, 22, 23, 24, 25, 26, 27, 28, 29, 30, 31, 32, 33, 34, 35, 36, 37, 38, 39, 40, 41, 42, 43, 44, 45, 46, 47, 48, 49, 50, 51, 52, 53] (by decide +kernel) (by decide +kernel)
set_option maxRecDepth 20000 in
theorem gX4_pourOne_X4_latestIn : GoodIn wsX4_pourOne (wsV RX4 143 RX4 yX4_latestIn wsX4_latestIn) := goodIn_app (goodIn_of _ (by decide +kernel)) ggX4_pourOne_X4_latestIn
theorem dX4_pourOne_0 : decode cX4_pourOne 0 = .ok (.aload_n 0, 1) := by decide +kernel
theorem dX4_pourOne_1 : decode cX4_pourOne 1 = .ok (.iload_n 1, 1) := by decide +kernel
theorem dX4_pourOne_2 : decode cX4_pourOne 2 = .ok (.invokevirtual 143, 3) := by decide +kernel
theorem dX4_pourOne_5 : decode cX4_pourOne 5 = .ok (.istore_n 3, 1) := by decide +kernel
theorem dX4_pourOne_6 : decode cX4_pourOne 6 = .ok (.aload_n 0, 1) := by decide +kernel
theorem dX4_pourOne_7 : decode cX4_pourOne 7 = .ok (.getfield 7, 3) := by decide +kernel
theorem dX4_pourOne_10 : decode cX4_pourOne 10 = .ok (.bipush 10, 2) := by decide +kernel
theorem dX4_pourOne_12 : decode cX4_pourOne 12 = .ok (.iload_n 1, 1) := by decide +kernel
theorem dX4_pourOne_13 : decode cX4_pourOne 13 = .ok (.imul, 1) := by decide +kernel
theorem dX4_pourOne_14 : decode cX4_pourOne 14 = .ok (.iload_n 3, 1) := by decide +kernel
theorem dX4_pourOne_15 : decode cX4_pourOne 15 = .ok (.iadd, 1) := by decide +kernel
theorem dX4_pourOne_16 : decode cX4_pourOne 16 = .ok (.dup2, 1) := by decide +kernel
theorem dX4_pourOne_17 : decode cX4_pourOne 17 = .ok (.iaload, 1) := by decide +kernel
theorem dX4_pourOne_18 : decode cX4_pourOne 18 = .ok (.iconst 1, 1) := by decide +kernel
theorem dX4_pourOne_19 : decode cX4_pourOne 19 = .ok (.isub, 1) := by decide +kernel
theorem dX4_pourOne_20 : decode cX4_pourOne 20 = .ok (.iastore, 1) := by decide +kernel
theorem dX4_pourOne_21 : decode cX4_pourOne 21 = .ok (.aload_n 0, 1) := by decide +kernel
theorem dX4_pourOne_22 : decode cX4_pourOne 22 = .ok (.getfield 7, 3) := by decide +kernel
theorem dX4_pourOne_25 : decode cX4_pourOne 25 = .ok (.bipush 10, 2) := by decide +kernel
theorem dX4_pourOne_27 : decode cX4_pourOne 27 = .ok (.iload_n 2, 1) := by decide +kernel
theorem dX4_pourOne_28 : decode cX4_pourOne 28 = .ok (.imul, 1) := by decide +kernel
theorem dX4_pourOne_29 : decode cX4_pourOne 29 = .ok (.iload_n 3, 1) := by decide +kernel
theorem dX4_pourOne_30 : decode cX4_pourOne 30 = .ok (.iadd, 1) := by decide +kernel
theorem dX4_pourOne_31 : decode cX4_pourOne 31 = .ok (.dup2, 1) := by decide +kernel
theorem dX4_pourOne_32 : decode cX4_pourOne 32 = .ok (.iaload, 1) := by decide +kernel
theorem dX4_pourOne_33 : decode cX4_pourOne 33 = .ok (.iconst 1, 1) := by decide +kernel
theorem dX4_pourOne_34 : decode cX4_pourOne 34 = .ok (.iadd, 1) := by decide +kernel
theorem dX4_pourOne_35 : decode cX4_pourOne 35 = .ok (.iastore, 1) := by decide +kernel
theorem dX4_pourOne_36 : decode cX4_pourOne 36 = .ok (.return_, 1) := by decide +kernel
set_option maxRecDepth 20000 in
theorem ggX4_pour_X4_isCask : GoodIn wsX4_pour wsX4_isCask := goodIn_r _ [5, 6, 7, 8, 4, 9, 44, 45, 46, 47, 48, 49, 50, 51, 52, 53, 54, 55, 56, 57, 58, 59, 60, 61, 62, 63, 64, 65, 66, 67, 68, 69, 70, 71, 72, 73] (by decide +kernel) (by decide +kernel)
set_option maxRecDepth 20000 in
theorem gX4_pour_X4_isCask : GoodIn wsX4_pour (wsV RX4 126 RX4 yX4_isCask wsX4_isCask) := goodIn_app (goodIn_of _ (by decide +kernel)) ggX4_pour_X4_isCask
set_option maxRecDepth 20000 in
theorem ggX4_pour_X4_within : GoodIn wsX4_pour wsX4_within := goodIn_r _ [9] (by decide +kernel) (by decide +kernel)
set_option maxRecDepth 20000 in
theorem gX4_pour_X4_within : GoodIn wsX4_pour (va_wsS RX4 56 yX4_within wsX4_within) := goodIn_app (goodIn_of _ (by decide +kernel)) ggX4_pour_X4_within
set_option maxRecDepth 20000 in
theorem ggX4_pour_X4_litresIn : GoodIn wsX4_pour wsX4_litresIn := goodIn_r _ [13, 14, 15, 16, 4, 17, 18, 19, 20, 21, 22, 23, 24, 25, 26, 27, 28, 29, 30, 31, 44, 45, 46, 47, 48, 49, 50, 51, 52, 53, 54, 55, 56, 57, 58, 59, 60, 61, 62, 63, 64, 65, 66, 67, 68, 69, 70, 71, 72, 73] (by decide +kernel) (by decide +kernel)
set_option maxRecDepth 20000 in
theorem gX4_pour_X4_litresIn : GoodIn wsX4_pour (wsV RX4 146 RX4 yX4_litresIn wsX4_litresIn) := goodIn_app (goodIn_of _ (by decide +kernel)) ggX4_pour_X4_litresIn
set_option maxRecDepth 20000 in
theorem ggX4_pour_X4_pourOne : GoodIn wsX4_pour wsX4_pourOne := goodIn_r _ [35, 27, 36, 37, 38, 4, 39, 14, 15, 16, 17, 18, 19, 20, 21, 22, 23, 24, 25, 26, 40, 41, 42, 43, 44, 45, 46, 47, 48, 49, 50, 51, 52, 53, 54, 55, 56, 57, 58, 59, 60, 61, 62, 63, 64, 65, 66, 67, 68, 69, 70, 71, 72, 73] (by decide +kernel) (by decide +kernel)
set_option maxRecDepth 20000 in
theorem gX4_pour_X4_pourOne : GoodIn wsX4_pour (wsV RX4 149 RX4 yX4_pourOne wsX4_pourOne) := goodIn_app (goodIn_of _ (by decide +kernel)) ggX4_pour_X4_pourOne
theorem dX4_pour_0 : decode cX4_pour 0 = .ok (.aload_n 0, 1) := by decide +kernel
theorem dX4_pour_1 : decode cX4_pour 1 = .ok (.iload_n 1, 1) := by decide +kernel
theorem dX4_pour_2 : decode cX4_pour 2 = .ok (.invokevirtual 126, 3) := by decide +kernel
theorem dX4_pour_5 : decode cX4_pour 5 = .ok (.ifCond .eq 16, 3) := by decide +kernel
theorem dX4_pour_8 : decode cX4_pour 8 = .ok (.aload_n 0, 1) := by decide +kernel
theorem dX4_pour_9 : decode cX4_pour 9 = .ok (.iload_n 2, 1) := by decide +kernel
theorem dX4_pour_10 : decode cX4_pour 10 = .ok (.invokevirtual 126, 3) := by decide +kernel
theorem dX4_pour_13 : decode cX4_pour 13 = .ok (.ifCond .eq 8, 3) := by decide +kernel
theorem dX4_pour_16 : decode cX4_pour 16 = .ok (.iload_n 1, 1) := by decide +kernel
theorem dX4_pour_17 : decode cX4_pour 17 = .ok (.iload_n 2, 1) := by decide +kernel
theorem dX4_pour_18 : decode cX4_pour 18 = .ok (.if_icmp .ne 6, 3) := by decide +kernel
theorem dX4_pour_21 : decode cX4_pour 21 = .ok (.bipush (-101), 2) := by decide +kernel
theorem dX4_pour_23 : decode cX4_pour 23 = .ok (.ireturn, 1) := by decide +kernel
theorem dX4_pour_24 : decode cX4_pour 24 = .ok (.iload_n 3, 1) := by decide +kernel
theorem dX4_pour_25 : decode cX4_pour 25 = .ok (.iconst 1, 1) := by decide +kernel
theorem dX4_pour_26 : decode cX4_pour 26 = .ok (.bipush 9, 2) := by decide +kernel
theorem dX4_pour_28 : decode cX4_pour 28 = .ok (.invokestatic 56, 3) := by decide +kernel
theorem dX4_pour_31 : decode cX4_pour 31 = .ok (.ifCond .ne 6, 3) := by decide +kernel
theorem dX4_pour_34 : decode cX4_pour 34 = .ok (.bipush (-102), 2) := by decide +kernel
theorem dX4_pour_36 : decode cX4_pour 36 = .ok (.ireturn, 1) := by decide +kernel
theorem dX4_pour_37 : decode cX4_pour 37 = .ok (.aload_n 0, 1) := by decide +kernel
theorem dX4_pour_38 : decode cX4_pour 38 = .ok (.iload_n 1, 1) := by decide +kernel
theorem dX4_pour_39 : decode cX4_pour 39 = .ok (.invokevirtual 146, 3) := by decide +kernel
theorem dX4_pour_42 : decode cX4_pour 42 = .ok (.iload_n 3, 1) := by decide +kernel
theorem dX4_pour_43 : decode cX4_pour 43 = .ok (.if_icmp .lt 15, 3) := by decide +kernel
theorem dX4_pour_46 : decode cX4_pour 46 = .ok (.aload_n 0, 1) := by decide +kernel
theorem dX4_pour_47 : decode cX4_pour 47 = .ok (.iload_n 2, 1) := by decide +kernel
theorem dX4_pour_48 : decode cX4_pour 48 = .ok (.invokevirtual 146, 3) := by decide +kernel
theorem dX4_pour_51 : decode cX4_pour 51 = .ok (.iload_n 3, 1) := by decide +kernel
theorem dX4_pour_52 : decode cX4_pour 52 = .ok (.iadd, 1) := by decide +kernel
theorem dX4_pour_53 : decode cX4_pour 53 = .ok (.bipush 20, 2) := by decide +kernel
theorem dX4_pour_55 : decode cX4_pour 55 = .ok (.if_icmp .le 6, 3) := by decide +kernel
theorem dX4_pour_58 : decode cX4_pour 58 = .ok (.bipush (-103), 2) := by decide +kernel
theorem dX4_pour_60 : decode cX4_pour 60 = .ok (.ireturn, 1) := by decide +kernel
theorem dX4_pour_61 : decode cX4_pour 61 = .ok (.iconst 0, 1) := by decide +kernel
theorem dX4_pour_62 : decode cX4_pour 62 = .ok (.istore 4, 2) := by decide +kernel
theorem dX4_pour_64 : decode cX4_pour 64 = .ok (.iload 4, 2) := by decide +kernel
theorem dX4_pour_66 : decode cX4_pour 66 = .ok (.iload_n 3, 1) := by decide +kernel
theorem dX4_pour_67 : decode cX4_pour 67 = .ok (.if_icmp .ge 15, 3) := by decide +kernel
theorem dX4_pour_70 : decode cX4_pour 70 = .ok (.aload_n 0, 1) := by decide +kernel
theorem dX4_pour_71 : decode cX4_pour 71 = .ok (.iload_n 1, 1) := by decide +kernel
theorem dX4_pour_72 : decode cX4_pour 72 = .ok (.iload_n 2, 1) := by decide +kernel
theorem dX4_pour_73 : decode cX4_pour 73 = .ok (.invokevirtual 149, 3) := by decide +kernel
theorem dX4_pour_76 : decode cX4_pour 76 = .ok (.iinc 4 1, 3) := by decide +kernel
theorem dX4_pour_79 : decode cX4_pour 79 = .ok (.goto (-15), 3) := by decide +kernel
theorem dX4_pour_82 : decode cX4_pour 82 = .ok (.aload_n 0, 1) := by decide +kernel
theorem dX4_pour_83 : decode cX4_pour 83 = .ok (.iload_n 2, 1) := by decide +kernel
theorem dX4_pour_84 : decode cX4_pour 84 = .ok (.invokevirtual 146, 3) := by decide +kernel
theorem dX4_pour_87 : decode cX4_pour 87 = .ok (.ireturn, 1) := by decide +kernel
set_option maxRecDepth 20000 in
theorem ggX4_arePeople_X4_within : GoodIn wsX4_arePeople wsX4_within := goodIn_r _ [5] (by decide +kernel) (by decide +kernel)
set_option maxRecDepth 20000 in
theorem gX4_arePeople_X4_within : GoodIn wsX4_arePeople (va_wsS RX4 56 yX4_within wsX4_within) := goodIn_app (goodIn_of _ (by decide +kernel)) ggX4_arePeople_X4_within
theorem dX4_arePeople_0 : decode cX4_arePeople 0 = .ok (.iload_n 1, 1) := by decide +kernel
theorem dX4_arePeople_1 : decode cX4_arePeople 1 = .ok (.iconst 0, 1) := by decide +kernel
theorem dX4_arePeople_2 : decode cX4_arePeople 2 = .ok (.iconst 1, 1) := by decide +kernel
theorem dX4_arePeople_3 : decode cX4_arePeople 3 = .ok (.aload_n 0, 1) := by decide +kernel
theorem dX4_arePeople_4 : decode cX4_arePeople 4 = .ok (.getfield 88, 3) := by decide +kernel
theorem dX4_arePeople_7 : decode cX4_arePeople 7 = .ok (.ishl, 1) := by decide +kernel
theorem dX4_arePeople_8 : decode cX4_arePeople 8 = .ok (.iconst 1, 1) := by decide +kernel
theorem dX4_arePeople_9 : decode cX4_arePeople 9 = .ok (.isub, 1) := by decide +kernel
theorem dX4_arePeople_10 : decode cX4_arePeople 10 = .ok (.invokestatic 56, 3) := by decide +kernel
theorem dX4_arePeople_13 : decode cX4_arePeople 13 = .ok (.ireturn, 1) := by decide +kernel
set_option maxRecDepth 20000 in
theorem ggX4_seated_X4_litresIn : GoodIn wsX4_seated wsX4_litresIn := goodIn_r _ [9, 10, 11, 12, 8, 13, 14, 15, 16, 17, 18, 19, 20, 21, 22, 23, 24, 25, 26, 27, 31, 32, 33, 34, 35, 36, 37, 38, 39, 40, 41, 42, 43, 44, 45, 46, 47, 48, 49, 50, 51, 52, 53, 54, 55, 56, 57, 58, 59, 60] (by decide +kernel) (by decide +kernel)
set_option maxRecDepth 20000 in
theorem gX4_seated_X4_litresIn : GoodIn wsX4_seated (wsV RX4 146 RX4 yX4_litresIn wsX4_litresIn) := goodIn_app (goodIn_of _ (by decide +kernel)) ggX4_seated_X4_litresIn
set_option maxRecDepth 20000 in
theorem ggX4_seated_X4_has : GoodIn wsX4_seated wsX4_has := goodIn_r _ [30] (by decide +kernel) (by decide +kernel)
set_option maxRecDepth 20000 in
theorem gX4_seated_X4_has : GoodIn wsX4_seated (va_wsS RX4 153 yX4_has wsX4_has) := goodIn_app (goodIn_of _ (by decide +kernel)) ggX4_seated_X4_has
theorem dX4_seated_0 : decode cX4_seated 0 = .ok (.iload_n 2, 1) := by decide +kernel
theorem dX4_seated_1 : decode cX4_seated 1 = .ok (.istore_n 3, 1) := by decide +kernel
theorem dX4_seated_2 : decode cX4_seated 2 = .ok (.iconst 0, 1) := by decide +kernel
theorem dX4_seated_3 : decode cX4_seated 3 = .ok (.istore 4, 2) := by decide +kernel
theorem dX4_seated_5 : decode cX4_seated 5 = .ok (.iconst 0, 1) := by decide +kernel
theorem dX4_seated_6 : decode cX4_seated 6 = .ok (.istore 5, 2) := by decide +kernel
theorem dX4_seated_8 : decode cX4_seated 8 = .ok (.iload 5, 2) := by decide +kernel
theorem dX4_seated_10 : decode cX4_seated 10 = .ok (.aload_n 0, 1) := by decide +kernel
theorem dX4_seated_11 : decode cX4_seated 11 = .ok (.getfield 82, 3) := by decide +kernel
theorem dX4_seated_14 : decode cX4_seated 14 = .ok (.if_icmp .ge 22, 3) := by decide +kernel
theorem dX4_seated_17 : decode cX4_seated 17 = .ok (.aload_n 0, 1) := by decide +kernel
theorem dX4_seated_18 : decode cX4_seated 18 = .ok (.getfield 38, 3) := by decide +kernel
theorem dX4_seated_21 : decode cX4_seated 21 = .ok (.iload 5, 2) := by decide +kernel
theorem dX4_seated_23 : decode cX4_seated 23 = .ok (.aload_n 0, 1) := by decide +kernel
theorem dX4_seated_24 : decode cX4_seated 24 = .ok (.iload 5, 2) := by decide +kernel
theorem dX4_seated_26 : decode cX4_seated 26 = .ok (.invokevirtual 146, 3) := by decide +kernel
theorem dX4_seated_29 : decode cX4_seated 29 = .ok (.iastore, 1) := by decide +kernel
theorem dX4_seated_30 : decode cX4_seated 30 = .ok (.iinc 5 1, 3) := by decide +kernel
theorem dX4_seated_33 : decode cX4_seated 33 = .ok (.goto (-25), 3) := by decide +kernel
theorem dX4_seated_36 : decode cX4_seated 36 = .ok (.iconst 0, 1) := by decide +kernel
theorem dX4_seated_37 : decode cX4_seated 37 = .ok (.istore 5, 2) := by decide +kernel
theorem dX4_seated_39 : decode cX4_seated 39 = .ok (.iload 5, 2) := by decide +kernel
theorem dX4_seated_41 : decode cX4_seated 41 = .ok (.aload_n 0, 1) := by decide +kernel
theorem dX4_seated_42 : decode cX4_seated 42 = .ok (.getfield 88, 3) := by decide +kernel
theorem dX4_seated_45 : decode cX4_seated 45 = .ok (.if_icmp .ge 91, 3) := by decide +kernel
theorem dX4_seated_48 : decode cX4_seated 48 = .ok (.iload_n 3, 1) := by decide +kernel
theorem dX4_seated_49 : decode cX4_seated 49 = .ok (.bipush 6, 2) := by decide +kernel
theorem dX4_seated_51 : decode cX4_seated 51 = .ok (.irem, 1) := by decide +kernel
theorem dX4_seated_52 : decode cX4_seated 52 = .ok (.iconst 1, 1) := by decide +kernel
theorem dX4_seated_53 : decode cX4_seated 53 = .ok (.isub, 1) := by decide +kernel
theorem dX4_seated_54 : decode cX4_seated 54 = .ok (.istore 6, 2) := by decide +kernel
theorem dX4_seated_56 : decode cX4_seated 56 = .ok (.iload_n 3, 1) := by decide +kernel
theorem dX4_seated_57 : decode cX4_seated 57 = .ok (.bipush 6, 2) := by decide +kernel
theorem dX4_seated_59 : decode cX4_seated 59 = .ok (.idiv, 1) := by decide +kernel
theorem dX4_seated_60 : decode cX4_seated 60 = .ok (.istore_n 3, 1) := by decide +kernel
theorem dX4_seated_61 : decode cX4_seated 61 = .ok (.iload 6, 2) := by decide +kernel
theorem dX4_seated_63 : decode cX4_seated 63 = .ok (.ifCond .lt 48, 3) := by decide +kernel
theorem dX4_seated_66 : decode cX4_seated 66 = .ok (.iload_n 1, 1) := by decide +kernel
theorem dX4_seated_67 : decode cX4_seated 67 = .ok (.iload 5, 2) := by decide +kernel
theorem dX4_seated_69 : decode cX4_seated 69 = .ok (.invokestatic 153, 3) := by decide +kernel
theorem dX4_seated_72 : decode cX4_seated 72 = .ok (.ifCond .eq 37, 3) := by decide +kernel
theorem dX4_seated_75 : decode cX4_seated 75 = .ok (.iload 6, 2) := by decide +kernel
theorem dX4_seated_77 : decode cX4_seated 77 = .ok (.aload_n 0, 1) := by decide +kernel
theorem dX4_seated_78 : decode cX4_seated 78 = .ok (.getfield 82, 3) := by decide +kernel
theorem dX4_seated_81 : decode cX4_seated 81 = .ok (.if_icmp .ge 28, 3) := by decide +kernel
theorem dX4_seated_84 : decode cX4_seated 84 = .ok (.aload_n 0, 1) := by decide +kernel
theorem dX4_seated_85 : decode cX4_seated 85 = .ok (.getfield 35, 3) := by decide +kernel
theorem dX4_seated_88 : decode cX4_seated 88 = .ok (.iload 5, 2) := by decide +kernel
theorem dX4_seated_90 : decode cX4_seated 90 = .ok (.iaload, 1) := by decide +kernel
theorem dX4_seated_91 : decode cX4_seated 91 = .ok (.iload 6, 2) := by decide +kernel
theorem dX4_seated_93 : decode cX4_seated 93 = .ok (.invokestatic 153, 3) := by decide +kernel
theorem dX4_seated_96 : decode cX4_seated 96 = .ok (.ifCond .eq 13, 3) := by decide +kernel
theorem dX4_seated_99 : decode cX4_seated 99 = .ok (.aload_n 0, 1) := by decide +kernel
theorem dX4_seated_100 : decode cX4_seated 100 = .ok (.getfield 38, 3) := by decide +kernel
theorem dX4_seated_103 : decode cX4_seated 103 = .ok (.iload 6, 2) := by decide +kernel
theorem dX4_seated_105 : decode cX4_seated 105 = .ok (.iaload, 1) := by decide +kernel
theorem dX4_seated_106 : decode cX4_seated 106 = .ok (.ifCond .ne 5, 3) := by decide +kernel
theorem dX4_seated_109 : decode cX4_seated 109 = .ok (.iconst (-1), 1) := by decide +kernel
theorem dX4_seated_110 : decode cX4_seated 110 = .ok (.ireturn, 1) := by decide +kernel
theorem dX4_seated_111 : decode cX4_seated 111 = .ok (.iload 6, 2) := by decide +kernel
theorem dX4_seated_113 : decode cX4_seated 113 = .ok (.ifCond .lt 17, 3) := by decide +kernel
theorem dX4_seated_116 : decode cX4_seated 116 = .ok (.aload_n 0, 1) := by decide +kernel
theorem dX4_seated_117 : decode cX4_seated 117 = .ok (.getfield 38, 3) := by decide +kernel
theorem dX4_seated_120 : decode cX4_seated 120 = .ok (.iload 6, 2) := by decide +kernel
theorem dX4_seated_122 : decode cX4_seated 122 = .ok (.dup2, 1) := by decide +kernel
theorem dX4_seated_123 : decode cX4_seated 123 = .ok (.iaload, 1) := by decide +kernel
theorem dX4_seated_124 : decode cX4_seated 124 = .ok (.iconst 1, 1) := by decide +kernel
theorem dX4_seated_125 : decode cX4_seated 125 = .ok (.isub, 1) := by decide +kernel
theorem dX4_seated_126 : decode cX4_seated 126 = .ok (.iastore, 1) := by decide +kernel
theorem dX4_seated_127 : decode cX4_seated 127 = .ok (.iinc 4 1, 3) := by decide +kernel
theorem dX4_seated_130 : decode cX4_seated 130 = .ok (.iinc 5 1, 3) := by decide +kernel
theorem dX4_seated_133 : decode cX4_seated 133 = .ok (.goto (-94), 3) := by decide +kernel
theorem dX4_seated_136 : decode cX4_seated 136 = .ok (.iload 4, 2) := by decide +kernel
theorem dX4_seated_138 : decode cX4_seated 138 = .ok (.ireturn, 1) := by decide +kernel
set_option maxRecDepth 20000 in
theorem ggX4_tableNow_X4_mayOf : GoodIn wsX4_tableNow wsX4_mayOf := goodIn_r _ [7, 8, 9, 10, 11, 12, 13, 6, 14, 15, 16, 17, 18, 19, 20, 21, 22, 23, 24, 25, 26, 27, 28, 29, 30, 31, 32, 33, 34, 35, 36, 37, 38, 39, 40, 41, 42, 43, 44, 45, 46, 47, 48, 61, 62, 63, 64, 65, 66, 67, 68, 69, 70, 71, 72, 73, 74, 75, 76, 77, 78, 79, 80, 81, 82, 83, 84, 85, 86, 87, 88, 89, 90] (by decide +kernel) (by decide +kernel)
set_option maxRecDepth 20000 in
theorem gX4_tableNow_X4_mayOf : GoodIn wsX4_tableNow (wsV RX4 134 RX4 yX4_mayOf wsX4_mayOf) := goodIn_app (goodIn_of _ (by decide +kernel)) ggX4_tableNow_X4_mayOf
set_option maxRecDepth 20000 in
theorem ggX4_tableNow_X4_seated : GoodIn wsX4_tableNow wsX4_seated := goodIn_r _ [52, 8, 53, 1, 2, 54, 55, 56, 6, 57, 11, 12, 13, 14, 15, 16, 17, 18, 19, 20, 21, 22, 23, 24, 34, 35, 36, 37, 58, 59, 60, 61, 62, 63, 64, 65, 66, 67, 68, 69, 70, 71, 72, 73, 74, 75, 76, 77, 78, 79, 80, 81, 82, 83, 84, 85, 86, 87, 88, 89, 90] (by decide +kernel) (by decide +kernel)
set_option maxRecDepth 20000 in
theorem gX4_tableNow_X4_seated : GoodIn wsX4_tableNow (wsV RX4 156 RX4 yX4_seated wsX4_seated) := goodIn_app (goodIn_of _ (by decide +kernel)) ggX4_tableNow_X4_seated
theorem dX4_tableNow_0 : decode cX4_tableNow 0 = .ok (.iconst 0, 1) := by decide +kernel
theorem dX4_tableNow_1 : decode cX4_tableNow 1 = .ok (.istore_n 2, 1) := by decide +kernel
theorem dX4_tableNow_2 : decode cX4_tableNow 2 = .ok (.iconst 1, 1) := by decide +kernel
theorem dX4_tableNow_3 : decode cX4_tableNow 3 = .ok (.istore_n 3, 1) := by decide +kernel
theorem dX4_tableNow_4 : decode cX4_tableNow 4 = .ok (.iconst 0, 1) := by decide +kernel
theorem dX4_tableNow_5 : decode cX4_tableNow 5 = .ok (.istore 4, 2) := by decide +kernel
theorem dX4_tableNow_7 : decode cX4_tableNow 7 = .ok (.iload 4, 2) := by decide +kernel
theorem dX4_tableNow_9 : decode cX4_tableNow 9 = .ok (.aload_n 0, 1) := by decide +kernel
theorem dX4_tableNow_10 : decode cX4_tableNow 10 = .ok (.getfield 88, 3) := by decide +kernel
theorem dX4_tableNow_13 : decode cX4_tableNow 13 = .ok (.if_icmp .ge 27, 3) := by decide +kernel
theorem dX4_tableNow_16 : decode cX4_tableNow 16 = .ok (.aload_n 0, 1) := by decide +kernel
theorem dX4_tableNow_17 : decode cX4_tableNow 17 = .ok (.getfield 35, 3) := by decide +kernel
theorem dX4_tableNow_20 : decode cX4_tableNow 20 = .ok (.iload 4, 2) := by decide +kernel
theorem dX4_tableNow_22 : decode cX4_tableNow 22 = .ok (.aload_n 0, 1) := by decide +kernel
theorem dX4_tableNow_23 : decode cX4_tableNow 23 = .ok (.iload 4, 2) := by decide +kernel
theorem dX4_tableNow_25 : decode cX4_tableNow 25 = .ok (.invokevirtual 134, 3) := by decide +kernel
theorem dX4_tableNow_28 : decode cX4_tableNow 28 = .ok (.iastore, 1) := by decide +kernel
theorem dX4_tableNow_29 : decode cX4_tableNow 29 = .ok (.iload_n 3, 1) := by decide +kernel
theorem dX4_tableNow_30 : decode cX4_tableNow 30 = .ok (.bipush 6, 2) := by decide +kernel
theorem dX4_tableNow_32 : decode cX4_tableNow 32 = .ok (.imul, 1) := by decide +kernel
theorem dX4_tableNow_33 : decode cX4_tableNow 33 = .ok (.istore_n 3, 1) := by decide +kernel
theorem dX4_tableNow_34 : decode cX4_tableNow 34 = .ok (.iinc 4 1, 3) := by decide +kernel
theorem dX4_tableNow_37 : decode cX4_tableNow 37 = .ok (.goto (-30), 3) := by decide +kernel
theorem dX4_tableNow_40 : decode cX4_tableNow 40 = .ok (.iconst 0, 1) := by decide +kernel
theorem dX4_tableNow_41 : decode cX4_tableNow 41 = .ok (.istore 4, 2) := by decide +kernel
theorem dX4_tableNow_43 : decode cX4_tableNow 43 = .ok (.iload 4, 2) := by decide +kernel
theorem dX4_tableNow_45 : decode cX4_tableNow 45 = .ok (.iload_n 3, 1) := by decide +kernel
theorem dX4_tableNow_46 : decode cX4_tableNow 46 = .ok (.if_icmp .ge 31, 3) := by decide +kernel
theorem dX4_tableNow_49 : decode cX4_tableNow 49 = .ok (.aload_n 0, 1) := by decide +kernel
theorem dX4_tableNow_50 : decode cX4_tableNow 50 = .ok (.iload_n 1, 1) := by decide +kernel
theorem dX4_tableNow_51 : decode cX4_tableNow 51 = .ok (.iload 4, 2) := by decide +kernel
theorem dX4_tableNow_53 : decode cX4_tableNow 53 = .ok (.invokevirtual 156, 3) := by decide +kernel
theorem dX4_tableNow_56 : decode cX4_tableNow 56 = .ok (.istore 5, 2) := by decide +kernel
theorem dX4_tableNow_58 : decode cX4_tableNow 58 = .ok (.iload 5, 2) := by decide +kernel
theorem dX4_tableNow_60 : decode cX4_tableNow 60 = .ok (.iload_n 2, 1) := by decide +kernel
theorem dX4_tableNow_61 : decode cX4_tableNow 61 = .ok (.if_icmp .le 8, 3) := by decide +kernel
theorem dX4_tableNow_64 : decode cX4_tableNow 64 = .ok (.iload 5, 2) := by decide +kernel
theorem dX4_tableNow_66 : decode cX4_tableNow 66 = .ok (.goto 4, 3) := by decide +kernel
theorem dX4_tableNow_69 : decode cX4_tableNow 69 = .ok (.iload_n 2, 1) := by decide +kernel
theorem dX4_tableNow_70 : decode cX4_tableNow 70 = .ok (.istore_n 2, 1) := by decide +kernel
theorem dX4_tableNow_71 : decode cX4_tableNow 71 = .ok (.iinc 4 1, 3) := by decide +kernel
theorem dX4_tableNow_74 : decode cX4_tableNow 74 = .ok (.goto (-31), 3) := by decide +kernel
theorem dX4_tableNow_77 : decode cX4_tableNow 77 = .ok (.iload_n 2, 1) := by decide +kernel
theorem dX4_tableNow_78 : decode cX4_tableNow 78 = .ok (.ireturn, 1) := by decide +kernel
set_option maxRecDepth 20000 in
theorem ggX4_table_X4_arePeople : GoodIn wsX4_table wsX4_arePeople := goodIn_r _ [6, 7, 8, 9, 5, 10, 72, 73, 74, 75, 76, 77, 78, 79, 80, 81, 82, 83, 84, 85, 86, 87, 88, 89, 90, 91, 92, 93, 94, 95, 96, 97, 98, 99, 100, 101] (by decide +kernel) (by decide +kernel)
set_option maxRecDepth 20000 in
theorem gX4_table_X4_arePeople : GoodIn wsX4_table (wsV RX4 159 RX4 yX4_arePeople wsX4_arePeople) := goodIn_app (goodIn_of _ (by decide +kernel)) ggX4_table_X4_arePeople
set_option maxRecDepth 20000 in
theorem ggX4_table_X4_tableNow : GoodIn wsX4_table wsX4_tableNow := goodIn_r _ [14, 7, 15, 16, 17, 18, 5, 19, 1, 20, 21, 22, 23, 24, 25, 26, 27, 28, 29, 30, 31, 32, 33, 34, 35, 36, 37, 38, 39, 40, 41, 42, 43, 44, 45, 46, 47, 48, 49, 50, 51, 52, 53, 54, 55, 56, 57, 58, 59, 60, 61, 62, 63, 64, 65, 66, 67, 68, 69, 70, 71, 72, 73, 74, 75, 76, 77, 78, 79, 80, 81, 82, 83, 84, 85, 86, 87, 88, 89, 90, 91, 92, 93, 94, 95, 96, 97, 98, 99, 100, 101] (by decide +kernel) (by decide +kernel)
set_option maxRecDepth 20000 in
theorem gX4_table_X4_tableNow : GoodIn wsX4_table (wsV RX4 162 RX4 yX4_tableNow wsX4_tableNow) := goodIn_app (goodIn_of _ (by decide +kernel)) ggX4_table_X4_tableNow
theorem dX4_table_0 : decode cX4_table 0 = .ok (.aload_n 0, 1) := by decide +kernel
theorem dX4_table_1 : decode cX4_table 1 = .ok (.iload_n 1, 1) := by decide +kernel
theorem dX4_table_2 : decode cX4_table 2 = .ok (.invokevirtual 159, 3) := by decide +kernel
theorem dX4_table_5 : decode cX4_table 5 = .ok (.ifCond .ne 6, 3) := by decide +kernel
theorem dX4_table_8 : decode cX4_table 8 = .ok (.bipush (-102), 2) := by decide +kernel
theorem dX4_table_10 : decode cX4_table 10 = .ok (.ireturn, 1) := by decide +kernel
theorem dX4_table_11 : decode cX4_table 11 = .ok (.aload_n 0, 1) := by decide +kernel
theorem dX4_table_12 : decode cX4_table 12 = .ok (.getfield 82, 3) := by decide +kernel
theorem dX4_table_15 : decode cX4_table 15 = .ok (.ifCond .ne 8, 3) := by decide +kernel
theorem dX4_table_18 : decode cX4_table 18 = .ok (.bipush (-103), 2) := by decide +kernel
theorem dX4_table_20 : decode cX4_table 20 = .ok (.goto 8, 3) := by decide +kernel
theorem dX4_table_23 : decode cX4_table 23 = .ok (.aload_n 0, 1) := by decide +kernel
theorem dX4_table_24 : decode cX4_table 24 = .ok (.iload_n 1, 1) := by decide +kernel
theorem dX4_table_25 : decode cX4_table 25 = .ok (.invokevirtual 162, 3) := by decide +kernel
theorem dX4_table_28 : decode cX4_table 28 = .ok (.ireturn, 1) := by decide +kernel
set_option maxRecDepth 20000 in
theorem ggX4_isBlend_X4_clear : GoodIn wsX4_isBlend wsX4_clear := goodIn_r _ [6, 7, 47, 48, 49, 50, 51, 52, 53, 54, 55, 56, 57, 58, 59, 60, 61, 62, 63, 64, 65, 66, 67, 68, 69, 70, 71, 72, 73, 74, 75, 76] (by decide +kernel) (by decide +kernel)
set_option maxRecDepth 20000 in
theorem gX4_isBlend_X4_clear : GoodIn wsX4_isBlend (wsV RX4 94 RX4 yX4_clear wsX4_clear) := goodIn_app (goodIn_of _ (by decide +kernel)) ggX4_isBlend_X4_clear
set_option maxRecDepth 20000 in
theorem ggX4_isBlend_X4_has : GoodIn wsX4_isBlend wsX4_has := goodIn_r _ [10] (by decide +kernel) (by decide +kernel)
set_option maxRecDepth 20000 in
theorem gX4_isBlend_X4_has : GoodIn wsX4_isBlend (va_wsS RX4 153 yX4_has wsX4_has) := goodIn_app (goodIn_of _ (by decide +kernel)) ggX4_isBlend_X4_has
set_option maxRecDepth 20000 in
theorem ggX4_isBlend_X4_litresThought : GoodIn wsX4_isBlend wsX4_litresThought := goodIn_r _ [14, 7, 47, 48, 49, 50, 51, 52, 53, 54, 55, 56, 57, 58, 59, 60, 61, 62, 63, 64, 65, 66, 67, 68, 69, 70, 71, 72, 73, 74, 75, 76] (by decide +kernel) (by decide +kernel)
set_option maxRecDepth 20000 in
theorem gX4_isBlend_X4_litresThought : GoodIn wsX4_isBlend (wsV RX4 101 RX4 yX4_litresThought wsX4_litresThought) := goodIn_app (goodIn_of _ (by decide +kernel)) ggX4_isBlend_X4_litresThought
set_option maxRecDepth 20000 in
theorem ggX4_isBlend_X4_add : GoodIn wsX4_isBlend wsX4_add := goodIn_r _ [18, 7, 19, 47, 48, 49, 50, 51, 52, 53, 54, 55, 56, 57, 58, 59, 60, 61, 62, 63, 64, 65, 66, 67, 68, 69, 70, 71, 72, 73, 74, 75, 76] (by decide +kernel) (by decide +kernel)
set_option maxRecDepth 20000 in
theorem gX4_isBlend_X4_add : GoodIn wsX4_isBlend (wsV RX4 97 RX4 yX4_add wsX4_add) := goodIn_app (goodIn_of _ (by decide +kernel)) ggX4_isBlend_X4_add
set_option maxRecDepth 20000 in
theorem ggX4_isBlend_X4_whoMay : GoodIn wsX4_isBlend wsX4_whoMay := goodIn_r _ [23, 24, 25, 26, 27, 28, 29, 5, 30, 31, 32, 33, 34, 7, 35, 11, 12, 13, 14, 36, 37, 38, 39, 40, 41, 42, 43, 44, 45, 46, 47, 48, 49, 50, 51, 52, 53, 54, 55, 56, 57, 58, 59, 60, 61, 62, 63, 64, 65, 66, 67, 68, 69, 70, 71, 72, 73, 74, 75, 76] (by decide +kernel) (by decide +kernel)
set_option maxRecDepth 20000 in
theorem gX4_isBlend_X4_whoMay : GoodIn wsX4_isBlend (wsV RX4 123 RX4 yX4_whoMay wsX4_whoMay) := goodIn_app (goodIn_of _ (by decide +kernel)) ggX4_isBlend_X4_whoMay
theorem dX4_isBlend_0 : decode cX4_isBlend 0 = .ok (.aload_n 0, 1) := by decide +kernel
theorem dX4_isBlend_1 : decode cX4_isBlend 1 = .ok (.invokevirtual 94, 3) := by decide +kernel
theorem dX4_isBlend_4 : decode cX4_isBlend 4 = .ok (.iconst 1, 1) := by decide +kernel
theorem dX4_isBlend_5 : decode cX4_isBlend 5 = .ok (.istore 4, 2) := by decide +kernel
theorem dX4_isBlend_7 : decode cX4_isBlend 7 = .ok (.iconst 0, 1) := by decide +kernel
theorem dX4_isBlend_8 : decode cX4_isBlend 8 = .ok (.istore 5, 2) := by decide +kernel
theorem dX4_isBlend_10 : decode cX4_isBlend 10 = .ok (.iload 5, 2) := by decide +kernel
theorem dX4_isBlend_12 : decode cX4_isBlend 12 = .ok (.aload_n 0, 1) := by decide +kernel
theorem dX4_isBlend_13 : decode cX4_isBlend 13 = .ok (.getfield 82, 3) := by decide +kernel
theorem dX4_isBlend_16 : decode cX4_isBlend 16 = .ok (.if_icmp .ge 51, 3) := by decide +kernel
theorem dX4_isBlend_19 : decode cX4_isBlend 19 = .ok (.iload_n 1, 1) := by decide +kernel
theorem dX4_isBlend_20 : decode cX4_isBlend 20 = .ok (.iload 5, 2) := by decide +kernel
theorem dX4_isBlend_22 : decode cX4_isBlend 22 = .ok (.invokestatic 153, 3) := by decide +kernel
theorem dX4_isBlend_25 : decode cX4_isBlend 25 = .ok (.ifCond .eq 36, 3) := by decide +kernel
theorem dX4_isBlend_28 : decode cX4_isBlend 28 = .ok (.aload_n 0, 1) := by decide +kernel
theorem dX4_isBlend_29 : decode cX4_isBlend 29 = .ok (.invokevirtual 101, 3) := by decide +kernel
theorem dX4_isBlend_32 : decode cX4_isBlend 32 = .ok (.istore 6, 2) := by decide +kernel
theorem dX4_isBlend_34 : decode cX4_isBlend 34 = .ok (.aload_n 0, 1) := by decide +kernel
theorem dX4_isBlend_35 : decode cX4_isBlend 35 = .ok (.iload 5, 2) := by decide +kernel
theorem dX4_isBlend_37 : decode cX4_isBlend 37 = .ok (.invokevirtual 97, 3) := by decide +kernel
theorem dX4_isBlend_40 : decode cX4_isBlend 40 = .ok (.iload 4, 2) := by decide +kernel
theorem dX4_isBlend_42 : decode cX4_isBlend 42 = .ok (.ifCond .eq 16, 3) := by decide +kernel
theorem dX4_isBlend_45 : decode cX4_isBlend 45 = .ok (.aload_n 0, 1) := by decide +kernel
theorem dX4_isBlend_46 : decode cX4_isBlend 46 = .ok (.invokevirtual 101, 3) := by decide +kernel
theorem dX4_isBlend_49 : decode cX4_isBlend 49 = .ok (.iload 6, 2) := by decide +kernel
theorem dX4_isBlend_51 : decode cX4_isBlend 51 = .ok (.if_icmp .le 7, 3) := by decide +kernel
theorem dX4_isBlend_54 : decode cX4_isBlend 54 = .ok (.iconst 1, 1) := by decide +kernel
theorem dX4_isBlend_55 : decode cX4_isBlend 55 = .ok (.goto 4, 3) := by decide +kernel
theorem dX4_isBlend_58 : decode cX4_isBlend 58 = .ok (.iconst 0, 1) := by decide +kernel
theorem dX4_isBlend_59 : decode cX4_isBlend 59 = .ok (.istore 4, 2) := by decide +kernel
theorem dX4_isBlend_61 : decode cX4_isBlend 61 = .ok (.iinc 5 1, 3) := by decide +kernel
theorem dX4_isBlend_64 : decode cX4_isBlend 64 = .ok (.goto (-54), 3) := by decide +kernel
theorem dX4_isBlend_67 : decode cX4_isBlend 67 = .ok (.iload 4, 2) := by decide +kernel
theorem dX4_isBlend_69 : decode cX4_isBlend 69 = .ok (.ifCond .eq 25, 3) := by decide +kernel
theorem dX4_isBlend_72 : decode cX4_isBlend 72 = .ok (.aload_n 0, 1) := by decide +kernel
theorem dX4_isBlend_73 : decode cX4_isBlend 73 = .ok (.invokevirtual 101, 3) := by decide +kernel
theorem dX4_isBlend_76 : decode cX4_isBlend 76 = .ok (.iload_n 3, 1) := by decide +kernel
theorem dX4_isBlend_77 : decode cX4_isBlend 77 = .ok (.if_icmp .lt 17, 3) := by decide +kernel
theorem dX4_isBlend_80 : decode cX4_isBlend 80 = .ok (.aload_n 0, 1) := by decide +kernel
theorem dX4_isBlend_81 : decode cX4_isBlend 81 = .ok (.invokevirtual 123, 3) := by decide +kernel
theorem dX4_isBlend_84 : decode cX4_isBlend 84 = .ok (.iload_n 2, 1) := by decide +kernel
theorem dX4_isBlend_85 : decode cX4_isBlend 85 = .ok (.iand, 1) := by decide +kernel
theorem dX4_isBlend_86 : decode cX4_isBlend 86 = .ok (.iload_n 2, 1) := by decide +kernel
theorem dX4_isBlend_87 : decode cX4_isBlend 87 = .ok (.if_icmp .ne 7, 3) := by decide +kernel
theorem dX4_isBlend_90 : decode cX4_isBlend 90 = .ok (.iconst 1, 1) := by decide +kernel
theorem dX4_isBlend_91 : decode cX4_isBlend 91 = .ok (.goto 4, 3) := by decide +kernel
theorem dX4_isBlend_94 : decode cX4_isBlend 94 = .ok (.iconst 0, 1) := by decide +kernel
theorem dX4_isBlend_95 : decode cX4_isBlend 95 = .ok (.ireturn, 1) := by decide +kernel
set_option maxRecDepth 20000 in
theorem ggX4_blendNow_X4_size : GoodIn wsX4_blendNow wsX4_size := goodIn_r _ [5] (by decide +kernel) (by decide +kernel)
set_option maxRecDepth 20000 in
theorem gX4_blendNow_X4_size : GoodIn wsX4_blendNow (va_wsS RX4 113 yX4_size wsX4_size) := goodIn_app (goodIn_of _ (by decide +kernel)) ggX4_blendNow_X4_size
set_option maxRecDepth 20000 in
theorem ggX4_blendNow_X4_isBlend : GoodIn wsX4_blendNow wsX4_isBlend := goodIn_r _ [9, 1, 10, 11, 12, 4, 13, 14, 15, 16, 17, 18, 19, 20, 21, 22, 23, 24, 25, 26, 27, 28, 29, 30, 31, 32, 33, 34, 35, 36, 37, 38, 39, 40, 41, 42, 43, 44, 45, 46, 47, 48, 49, 50, 2, 3, 5, 51, 52, 53, 54, 55, 56, 57, 58, 59, 60, 61, 62, 63, 64, 65, 66, 67, 68, 69, 70, 71, 72, 73, 74, 75, 76, 77, 78, 79, 80] (by decide +kernel) (by decide +kernel)
set_option maxRecDepth 20000 in
theorem gX4_blendNow_X4_isBlend : GoodIn wsX4_blendNow (wsV RX4 165 RX4 yX4_isBlend wsX4_isBlend) := goodIn_app (goodIn_of _ (by decide +kernel)) ggX4_blendNow_X4_isBlend
theorem dX4_blendNow_0 : decode cX4_blendNow 0 = .ok (.iconst (-1), 1) := by decide +kernel
theorem dX4_blendNow_1 : decode cX4_blendNow 1 = .ok (.istore 4, 2) := by decide +kernel
theorem dX4_blendNow_3 : decode cX4_blendNow 3 = .ok (.iconst 0, 1) := by decide +kernel
theorem dX4_blendNow_4 : decode cX4_blendNow 4 = .ok (.istore 5, 2) := by decide +kernel
theorem dX4_blendNow_6 : decode cX4_blendNow 6 = .ok (.iload 5, 2) := by decide +kernel
theorem dX4_blendNow_8 : decode cX4_blendNow 8 = .ok (.iconst 1, 1) := by decide +kernel
theorem dX4_blendNow_9 : decode cX4_blendNow 9 = .ok (.aload_n 0, 1) := by decide +kernel
theorem dX4_blendNow_10 : decode cX4_blendNow 10 = .ok (.getfield 82, 3) := by decide +kernel
theorem dX4_blendNow_13 : decode cX4_blendNow 13 = .ok (.ishl, 1) := by decide +kernel
theorem dX4_blendNow_14 : decode cX4_blendNow 14 = .ok (.if_icmp .ge 60, 3) := by decide +kernel
theorem dX4_blendNow_17 : decode cX4_blendNow 17 = .ok (.iload 4, 2) := by decide +kernel
theorem dX4_blendNow_19 : decode cX4_blendNow 19 = .ok (.iconst (-1), 1) := by decide +kernel
theorem dX4_blendNow_20 : decode cX4_blendNow 20 = .ok (.if_icmp .eq 16, 3) := by decide +kernel
theorem dX4_blendNow_23 : decode cX4_blendNow 23 = .ok (.iload 5, 2) := by decide +kernel
theorem dX4_blendNow_25 : decode cX4_blendNow 25 = .ok (.invokestatic 113, 3) := by decide +kernel
theorem dX4_blendNow_28 : decode cX4_blendNow 28 = .ok (.iload 4, 2) := by decide +kernel
theorem dX4_blendNow_30 : decode cX4_blendNow 30 = .ok (.invokestatic 113, 3) := by decide +kernel
theorem dX4_blendNow_33 : decode cX4_blendNow 33 = .ok (.if_icmp .ge 7, 3) := by decide +kernel
theorem dX4_blendNow_36 : decode cX4_blendNow 36 = .ok (.iconst 1, 1) := by decide +kernel
theorem dX4_blendNow_37 : decode cX4_blendNow 37 = .ok (.goto 4, 3) := by decide +kernel
theorem dX4_blendNow_40 : decode cX4_blendNow 40 = .ok (.iconst 0, 1) := by decide +kernel
theorem dX4_blendNow_41 : decode cX4_blendNow 41 = .ok (.istore 6, 2) := by decide +kernel
theorem dX4_blendNow_43 : decode cX4_blendNow 43 = .ok (.iload 6, 2) := by decide +kernel
theorem dX4_blendNow_45 : decode cX4_blendNow 45 = .ok (.ifCond .eq 19, 3) := by decide +kernel
theorem dX4_blendNow_48 : decode cX4_blendNow 48 = .ok (.aload_n 0, 1) := by decide +kernel
theorem dX4_blendNow_49 : decode cX4_blendNow 49 = .ok (.iload 5, 2) := by decide +kernel
theorem dX4_blendNow_51 : decode cX4_blendNow 51 = .ok (.iload_n 1, 1) := by decide +kernel
theorem dX4_blendNow_52 : decode cX4_blendNow 52 = .ok (.iload_n 2, 1) := by decide +kernel
theorem dX4_blendNow_53 : decode cX4_blendNow 53 = .ok (.invokevirtual 165, 3) := by decide +kernel
theorem dX4_blendNow_56 : decode cX4_blendNow 56 = .ok (.ifCond .eq 8, 3) := by decide +kernel
theorem dX4_blendNow_59 : decode cX4_blendNow 59 = .ok (.iload 5, 2) := by decide +kernel
theorem dX4_blendNow_61 : decode cX4_blendNow 61 = .ok (.goto 5, 3) := by decide +kernel
theorem dX4_blendNow_64 : decode cX4_blendNow 64 = .ok (.iload 4, 2) := by decide +kernel
theorem dX4_blendNow_66 : decode cX4_blendNow 66 = .ok (.istore 4, 2) := by decide +kernel
theorem dX4_blendNow_68 : decode cX4_blendNow 68 = .ok (.iinc 5 1, 3) := by decide +kernel
theorem dX4_blendNow_71 : decode cX4_blendNow 71 = .ok (.goto (-65), 3) := by decide +kernel
theorem dX4_blendNow_74 : decode cX4_blendNow 74 = .ok (.iload 4, 2) := by decide +kernel
theorem dX4_blendNow_76 : decode cX4_blendNow 76 = .ok (.iconst (-1), 1) := by decide +kernel
theorem dX4_blendNow_77 : decode cX4_blendNow 77 = .ok (.if_icmp .eq 8, 3) := by decide +kernel
theorem dX4_blendNow_80 : decode cX4_blendNow 80 = .ok (.iload_n 3, 1) := by decide +kernel
theorem dX4_blendNow_81 : decode cX4_blendNow 81 = .ok (.iconst 1, 1) := by decide +kernel
theorem dX4_blendNow_82 : decode cX4_blendNow 82 = .ok (.if_icmp .ne 8, 3) := by decide +kernel
theorem dX4_blendNow_85 : decode cX4_blendNow 85 = .ok (.iload 4, 2) := by decide +kernel
theorem dX4_blendNow_87 : decode cX4_blendNow 87 = .ok (.goto 8, 3) := by decide +kernel
theorem dX4_blendNow_90 : decode cX4_blendNow 90 = .ok (.iload 4, 2) := by decide +kernel
theorem dX4_blendNow_92 : decode cX4_blendNow 92 = .ok (.invokestatic 113, 3) := by decide +kernel
theorem dX4_blendNow_95 : decode cX4_blendNow 95 = .ok (.ireturn, 1) := by decide +kernel
set_option maxRecDepth 20000 in
theorem ggX4_blend_X4_arePeople : GoodIn wsX4_blend wsX4_arePeople := goodIn_r _ [6, 7, 8, 9, 5, 10, 62, 63, 64, 65, 66, 67, 68, 69, 70, 71, 72, 73, 74, 75, 76, 77, 78, 79, 80, 81, 82, 83, 84, 85, 86, 87, 88, 89, 90, 91] (by decide +kernel) (by decide +kernel)
set_option maxRecDepth 20000 in
theorem gX4_blend_X4_arePeople : GoodIn wsX4_blend (wsV RX4 159 RX4 yX4_arePeople wsX4_arePeople) := goodIn_app (goodIn_of _ (by decide +kernel)) ggX4_blend_X4_arePeople
set_option maxRecDepth 20000 in
theorem ggX4_blend_X4_within : GoodIn wsX4_blend wsX4_within := goodIn_r _ [10] (by decide +kernel) (by decide +kernel)
set_option maxRecDepth 20000 in
theorem gX4_blend_X4_within : GoodIn wsX4_blend (va_wsS RX4 56 yX4_within wsX4_within) := goodIn_app (goodIn_of _ (by decide +kernel)) ggX4_blend_X4_within
set_option maxRecDepth 20000 in
theorem ggX4_blend_X4_blendNow : GoodIn wsX4_blend wsX4_blendNow := goodIn_r _ [14, 1, 15, 16, 5, 17, 18, 19, 20, 21, 22, 23, 24, 25, 26, 27, 28, 29, 30, 31, 32, 33, 34, 35, 36, 37, 38, 39, 40, 41, 42, 7, 43, 44, 45, 46, 47, 48, 49, 50, 51, 52, 53, 54, 55, 56, 57, 58, 59, 60, 61, 62, 63, 64, 65, 66, 67, 68, 69, 70, 71, 72, 73, 74, 75, 76, 77, 78, 79, 80, 81, 82, 83, 84, 85, 86, 87, 88, 89, 90, 91] (by decide +kernel) (by decide +kernel)
set_option maxRecDepth 20000 in
theorem gX4_blend_X4_blendNow : GoodIn wsX4_blend (wsV RX4 168 RX4 yX4_blendNow wsX4_blendNow) := goodIn_app (goodIn_of _ (by decide +kernel)) ggX4_blend_X4_blendNow
theorem dX4_blend_0 : decode cX4_blend 0 = .ok (.aload_n 0, 1) := by decide +kernel
theorem dX4_blend_1 : decode cX4_blend 1 = .ok (.iload_n 1, 1) := by decide +kernel
theorem dX4_blend_2 : decode cX4_blend 2 = .ok (.invokevirtual 159, 3) := by decide +kernel
theorem dX4_blend_5 : decode cX4_blend 5 = .ok (.ifCond .eq 22, 3) := by decide +kernel
theorem dX4_blend_8 : decode cX4_blend 8 = .ok (.iload_n 2, 1) := by decide +kernel
theorem dX4_blend_9 : decode cX4_blend 9 = .ok (.iconst 0, 1) := by decide +kernel
theorem dX4_blend_10 : decode cX4_blend 10 = .ok (.bipush 99, 2) := by decide +kernel
theorem dX4_blend_12 : decode cX4_blend 12 = .ok (.invokestatic 56, 3) := by decide +kernel
theorem dX4_blend_15 : decode cX4_blend 15 = .ok (.ifCond .eq 12, 3) := by decide +kernel
theorem dX4_blend_18 : decode cX4_blend 18 = .ok (.iload_n 3, 1) := by decide +kernel
theorem dX4_blend_19 : decode cX4_blend 19 = .ok (.iconst 0, 1) := by decide +kernel
theorem dX4_blend_20 : decode cX4_blend 20 = .ok (.iconst 1, 1) := by decide +kernel
theorem dX4_blend_21 : decode cX4_blend 21 = .ok (.invokestatic 56, 3) := by decide +kernel
theorem dX4_blend_24 : decode cX4_blend 24 = .ok (.ifCond .ne 6, 3) := by decide +kernel
theorem dX4_blend_27 : decode cX4_blend 27 = .ok (.bipush (-102), 2) := by decide +kernel
theorem dX4_blend_29 : decode cX4_blend 29 = .ok (.ireturn, 1) := by decide +kernel
theorem dX4_blend_30 : decode cX4_blend 30 = .ok (.aload_n 0, 1) := by decide +kernel
theorem dX4_blend_31 : decode cX4_blend 31 = .ok (.getfield 82, 3) := by decide +kernel
theorem dX4_blend_34 : decode cX4_blend 34 = .ok (.ifCond .ne 8, 3) := by decide +kernel
theorem dX4_blend_37 : decode cX4_blend 37 = .ok (.bipush (-103), 2) := by decide +kernel
theorem dX4_blend_39 : decode cX4_blend 39 = .ok (.goto 10, 3) := by decide +kernel
theorem dX4_blend_42 : decode cX4_blend 42 = .ok (.aload_n 0, 1) := by decide +kernel
theorem dX4_blend_43 : decode cX4_blend 43 = .ok (.iload_n 1, 1) := by decide +kernel
theorem dX4_blend_44 : decode cX4_blend 44 = .ok (.iload_n 2, 1) := by decide +kernel
theorem dX4_blend_45 : decode cX4_blend 45 = .ok (.iload_n 3, 1) := by decide +kernel
theorem dX4_blend_46 : decode cX4_blend 46 = .ok (.invokevirtual 168, 3) := by decide +kernel
theorem dX4_blend_49 : decode cX4_blend 49 = .ok (.ireturn, 1) := by decide +kernel
theorem dX4_addLitres_0 : decode cX4_addLitres 0 = .ok (.iload_n 2, 1) := by decide +kernel
theorem dX4_addLitres_1 : decode cX4_addLitres 1 = .ok (.istore_n 3, 1) := by decide +kernel
theorem dX4_addLitres_2 : decode cX4_addLitres 2 = .ok (.bipush 9, 2) := by decide +kernel
theorem dX4_addLitres_4 : decode cX4_addLitres 4 = .ok (.istore 4, 2) := by decide +kernel
theorem dX4_addLitres_6 : decode cX4_addLitres 6 = .ok (.iload 4, 2) := by decide +kernel
theorem dX4_addLitres_8 : decode cX4_addLitres 8 = .ok (.ifCond .lt 60, 3) := by decide +kernel
theorem dX4_addLitres_11 : decode cX4_addLitres 11 = .ok (.aload_n 0, 1) := by decide +kernel
theorem dX4_addLitres_12 : decode cX4_addLitres 12 = .ok (.getfield 7, 3) := by decide +kernel
theorem dX4_addLitres_15 : decode cX4_addLitres 15 = .ok (.bipush 10, 2) := by decide +kernel
theorem dX4_addLitres_17 : decode cX4_addLitres 17 = .ok (.iload_n 1, 1) := by decide +kernel
theorem dX4_addLitres_18 : decode cX4_addLitres 18 = .ok (.imul, 1) := by decide +kernel
theorem dX4_addLitres_19 : decode cX4_addLitres 19 = .ok (.iload 4, 2) := by decide +kernel
theorem dX4_addLitres_21 : decode cX4_addLitres 21 = .ok (.iadd, 1) := by decide +kernel
theorem dX4_addLitres_22 : decode cX4_addLitres 22 = .ok (.iaload, 1) := by decide +kernel
theorem dX4_addLitres_23 : decode cX4_addLitres 23 = .ok (.iload_n 3, 1) := by decide +kernel
theorem dX4_addLitres_24 : decode cX4_addLitres 24 = .ok (.if_icmp .ge 18, 3) := by decide +kernel
theorem dX4_addLitres_27 : decode cX4_addLitres 27 = .ok (.aload_n 0, 1) := by decide +kernel
theorem dX4_addLitres_28 : decode cX4_addLitres 28 = .ok (.getfield 7, 3) := by decide +kernel
theorem dX4_addLitres_31 : decode cX4_addLitres 31 = .ok (.bipush 10, 2) := by decide +kernel
theorem dX4_addLitres_33 : decode cX4_addLitres 33 = .ok (.iload_n 1, 1) := by decide +kernel
theorem dX4_addLitres_34 : decode cX4_addLitres 34 = .ok (.imul, 1) := by decide +kernel
theorem dX4_addLitres_35 : decode cX4_addLitres 35 = .ok (.iload 4, 2) := by decide +kernel
theorem dX4_addLitres_37 : decode cX4_addLitres 37 = .ok (.iadd, 1) := by decide +kernel
theorem dX4_addLitres_38 : decode cX4_addLitres 38 = .ok (.iaload, 1) := by decide +kernel
theorem dX4_addLitres_39 : decode cX4_addLitres 39 = .ok (.goto 4, 3) := by decide +kernel
theorem dX4_addLitres_42 : decode cX4_addLitres 42 = .ok (.iload_n 3, 1) := by decide +kernel
theorem dX4_addLitres_43 : decode cX4_addLitres 43 = .ok (.istore 5, 2) := by decide +kernel
theorem dX4_addLitres_45 : decode cX4_addLitres 45 = .ok (.aload_n 0, 1) := by decide +kernel
theorem dX4_addLitres_46 : decode cX4_addLitres 46 = .ok (.getfield 13, 3) := by decide +kernel
theorem dX4_addLitres_49 : decode cX4_addLitres 49 = .ok (.iload 4, 2) := by decide +kernel
theorem dX4_addLitres_51 : decode cX4_addLitres 51 = .ok (.dup2, 1) := by decide +kernel
theorem dX4_addLitres_52 : decode cX4_addLitres 52 = .ok (.iaload, 1) := by decide +kernel
theorem dX4_addLitres_53 : decode cX4_addLitres 53 = .ok (.iload 5, 2) := by decide +kernel
theorem dX4_addLitres_55 : decode cX4_addLitres 55 = .ok (.iadd, 1) := by decide +kernel
theorem dX4_addLitres_56 : decode cX4_addLitres 56 = .ok (.iastore, 1) := by decide +kernel
theorem dX4_addLitres_57 : decode cX4_addLitres 57 = .ok (.iload_n 3, 1) := by decide +kernel
theorem dX4_addLitres_58 : decode cX4_addLitres 58 = .ok (.iload 5, 2) := by decide +kernel
theorem dX4_addLitres_60 : decode cX4_addLitres 60 = .ok (.isub, 1) := by decide +kernel
theorem dX4_addLitres_61 : decode cX4_addLitres 61 = .ok (.istore_n 3, 1) := by decide +kernel
theorem dX4_addLitres_62 : decode cX4_addLitres 62 = .ok (.iinc 4 (-1), 3) := by decide +kernel
theorem dX4_addLitres_65 : decode cX4_addLitres 65 = .ok (.goto (-59), 3) := by decide +kernel
theorem dX4_addLitres_68 : decode cX4_addLitres 68 = .ok (.return_, 1) := by decide +kernel
set_option maxRecDepth 20000 in
theorem ggX4_isTopped_X4_think : GoodIn wsX4_isTopped wsX4_think := goodIn_r _ [5, 6, 7, 8, 4, 9, 10, 11, 12, 13, 14, 15, 51, 52, 53, 54, 55, 56, 57, 58, 59, 60, 61, 62, 63, 64, 65, 66, 67, 68, 69, 70, 71, 72, 73, 74, 75, 76, 77, 78, 79, 80] (by decide +kernel) (by decide +kernel)
set_option maxRecDepth 20000 in
theorem gX4_isTopped_X4_think : GoodIn wsX4_isTopped (wsV RX4 120 RX4 yX4_think wsX4_think) := goodIn_app (goodIn_of _ (by decide +kernel)) ggX4_isTopped_X4_think
set_option maxRecDepth 20000 in
theorem ggX4_isTopped_X4_addLitres : GoodIn wsX4_isTopped wsX4_addLitres := goodIn_r _ [19, 15, 10, 51, 52, 53, 54, 55, 56, 57, 58, 59, 60, 61, 62, 63, 64, 65, 66, 67, 68, 69, 70, 71, 72, 73, 74, 75, 76, 77, 78, 79, 80] (by decide +kernel) (by decide +kernel)
set_option maxRecDepth 20000 in
theorem gX4_isTopped_X4_addLitres : GoodIn wsX4_isTopped (wsV RX4 172 RX4 yX4_addLitres wsX4_addLitres) := goodIn_app (goodIn_of _ (by decide +kernel)) ggX4_isTopped_X4_addLitres
set_option maxRecDepth 20000 in
theorem ggX4_isTopped_X4_whoMay : GoodIn wsX4_isTopped wsX4_whoMay := goodIn_r _ [23, 24, 25, 26, 27, 28, 29, 4, 30, 31, 32, 33, 34, 10, 35, 36, 37, 38, 39, 40, 41, 42, 43, 44, 45, 46, 47, 48, 49, 50, 51, 52, 53, 54, 55, 56, 57, 58, 59, 60, 61, 62, 63, 64, 65, 66, 67, 68, 69, 70, 71, 72, 73, 74, 75, 76, 77, 78, 79, 80] (by decide +kernel) (by decide +kernel)
set_option maxRecDepth 20000 in
theorem gX4_isTopped_X4_whoMay : GoodIn wsX4_isTopped (wsV RX4 123 RX4 yX4_whoMay wsX4_whoMay) := goodIn_app (goodIn_of _ (by decide +kernel)) ggX4_isTopped_X4_whoMay
theorem dX4_isTopped_0 : decode cX4_isTopped 0 = .ok (.aload_n 0, 1) := by decide +kernel
theorem dX4_isTopped_1 : decode cX4_isTopped 1 = .ok (.iload_n 1, 1) := by decide +kernel
theorem dX4_isTopped_2 : decode cX4_isTopped 2 = .ok (.invokevirtual 120, 3) := by decide +kernel
theorem dX4_isTopped_5 : decode cX4_isTopped 5 = .ok (.aload_n 0, 1) := by decide +kernel
theorem dX4_isTopped_6 : decode cX4_isTopped 6 = .ok (.iload_n 2, 1) := by decide +kernel
theorem dX4_isTopped_7 : decode cX4_isTopped 7 = .ok (.iload_n 3, 1) := by decide +kernel
theorem dX4_isTopped_8 : decode cX4_isTopped 8 = .ok (.invokevirtual 172, 3) := by decide +kernel
theorem dX4_isTopped_11 : decode cX4_isTopped 11 = .ok (.aload_n 0, 1) := by decide +kernel
theorem dX4_isTopped_12 : decode cX4_isTopped 12 = .ok (.invokevirtual 123, 3) := by decide +kernel
theorem dX4_isTopped_15 : decode cX4_isTopped 15 = .ok (.iload 4, 2) := by decide +kernel
theorem dX4_isTopped_17 : decode cX4_isTopped 17 = .ok (.iand, 1) := by decide +kernel
theorem dX4_isTopped_18 : decode cX4_isTopped 18 = .ok (.iload 4, 2) := by decide +kernel
theorem dX4_isTopped_20 : decode cX4_isTopped 20 = .ok (.if_icmp .ne 7, 3) := by decide +kernel
theorem dX4_isTopped_23 : decode cX4_isTopped 23 = .ok (.iconst 1, 1) := by decide +kernel
theorem dX4_isTopped_24 : decode cX4_isTopped 24 = .ok (.goto 4, 3) := by decide +kernel
theorem dX4_isTopped_27 : decode cX4_isTopped 27 = .ok (.iconst 0, 1) := by decide +kernel
theorem dX4_isTopped_28 : decode cX4_isTopped 28 = .ok (.ireturn, 1) := by decide +kernel
set_option maxRecDepth 20000 in
theorem ggX4_topNow_X4_think : GoodIn wsX4_topNow wsX4_think := goodIn_r _ [6, 7, 8, 9, 5, 10, 11, 12, 13, 14, 15, 16, 60, 61, 62, 63, 64, 65, 66, 67, 68, 69, 70, 71, 72, 73, 74, 75, 76, 77, 78, 79, 80, 81, 82, 83, 84, 85, 86, 87, 88, 89] (by decide +kernel) (by decide +kernel)
set_option maxRecDepth 20000 in
theorem gX4_topNow_X4_think : GoodIn wsX4_topNow (wsV RX4 120 RX4 yX4_think wsX4_think) := goodIn_app (goodIn_of _ (by decide +kernel)) ggX4_topNow_X4_think
set_option maxRecDepth 20000 in
theorem ggX4_topNow_X4_whoMay : GoodIn wsX4_topNow wsX4_whoMay := goodIn_r _ [20, 21, 22, 23, 24, 25, 26, 5, 27, 28, 29, 30, 31, 11, 32, 33, 34, 35, 36, 37, 38, 39, 40, 41, 42, 43, 44, 45, 46, 47, 60, 61, 62, 63, 64, 65, 66, 67, 68, 69, 70, 71, 72, 73, 74, 75, 76, 77, 78, 79, 80, 81, 82, 83, 84, 85, 86, 87, 88, 89] (by decide +kernel) (by decide +kernel)
set_option maxRecDepth 20000 in
theorem gX4_topNow_X4_whoMay : GoodIn wsX4_topNow (wsV RX4 123 RX4 yX4_whoMay wsX4_whoMay) := goodIn_app (goodIn_of _ (by decide +kernel)) ggX4_topNow_X4_whoMay
set_option maxRecDepth 20000 in
theorem ggX4_topNow_X4_litresIn : GoodIn wsX4_topNow wsX4_litresIn := goodIn_r _ [51, 2, 3, 4, 5, 6, 7, 8, 9, 10, 11, 12, 13, 14, 15, 16, 33, 34, 35, 36, 60, 61, 62, 63, 64, 65, 66, 67, 68, 69, 70, 71, 72, 73, 74, 75, 76, 77, 78, 79, 80, 81, 82, 83, 84, 85, 86, 87, 88, 89] (by decide +kernel) (by decide +kernel)
set_option maxRecDepth 20000 in
theorem gX4_topNow_X4_litresIn : GoodIn wsX4_topNow (wsV RX4 146 RX4 yX4_litresIn wsX4_litresIn) := goodIn_app (goodIn_of _ (by decide +kernel)) ggX4_topNow_X4_litresIn
set_option maxRecDepth 20000 in
theorem ggX4_topNow_X4_isTopped : GoodIn wsX4_topNow wsX4_isTopped := goodIn_r _ [55, 2, 3, 4, 5, 6, 7, 8, 9, 10, 11, 12, 13, 14, 15, 16, 56, 57, 58, 59, 17, 18, 19, 20, 21, 22, 23, 24, 25, 26, 27, 28, 29, 30, 31, 32, 33, 34, 35, 36, 37, 38, 39, 40, 41, 42, 43, 44, 45, 46, 47, 60, 61, 62, 63, 64, 65, 66, 67, 68, 69, 70, 71, 72, 73, 74, 75, 76, 77, 78, 79, 80, 81, 82, 83, 84, 85, 86, 87, 88, 89] (by decide +kernel) (by decide +kernel)
set_option maxRecDepth 20000 in
theorem gX4_topNow_X4_isTopped : GoodIn wsX4_topNow (wsV RX4 175 RX4 yX4_isTopped wsX4_isTopped) := goodIn_app (goodIn_of _ (by decide +kernel)) ggX4_topNow_X4_isTopped
theorem dX4_topNow_0 : decode cX4_topNow 0 = .ok (.aload_n 0, 1) := by decide +kernel
theorem dX4_topNow_1 : decode cX4_topNow 1 = .ok (.iload_n 2, 1) := by decide +kernel
theorem dX4_topNow_2 : decode cX4_topNow 2 = .ok (.invokevirtual 120, 3) := by decide +kernel
theorem dX4_topNow_5 : decode cX4_topNow 5 = .ok (.aload_n 0, 1) := by decide +kernel
theorem dX4_topNow_6 : decode cX4_topNow 6 = .ok (.invokevirtual 123, 3) := by decide +kernel
theorem dX4_topNow_9 : decode cX4_topNow 9 = .ok (.iload_n 1, 1) := by decide +kernel
theorem dX4_topNow_10 : decode cX4_topNow 10 = .ok (.iand, 1) := by decide +kernel
theorem dX4_topNow_11 : decode cX4_topNow 11 = .ok (.iload_n 1, 1) := by decide +kernel
theorem dX4_topNow_12 : decode cX4_topNow 12 = .ok (.if_icmp .ne 13, 3) := by decide +kernel
theorem dX4_topNow_15 : decode cX4_topNow 15 = .ok (.iload_n 3, 1) := by decide +kernel
theorem dX4_topNow_16 : decode cX4_topNow 16 = .ok (.ifCond .ne 7, 3) := by decide +kernel
theorem dX4_topNow_19 : decode cX4_topNow 19 = .ok (.iconst 0, 1) := by decide +kernel
theorem dX4_topNow_20 : decode cX4_topNow 20 = .ok (.goto 4, 3) := by decide +kernel
theorem dX4_topNow_23 : decode cX4_topNow 23 = .ok (.iconst (-1), 1) := by decide +kernel
theorem dX4_topNow_24 : decode cX4_topNow 24 = .ok (.ireturn, 1) := by decide +kernel
theorem dX4_topNow_25 : decode cX4_topNow 25 = .ok (.iconst 1, 1) := by decide +kernel
theorem dX4_topNow_26 : decode cX4_topNow 26 = .ok (.istore 4, 2) := by decide +kernel
theorem dX4_topNow_28 : decode cX4_topNow 28 = .ok (.iload 4, 2) := by decide +kernel
theorem dX4_topNow_30 : decode cX4_topNow 30 = .ok (.bipush 20, 2) := by decide +kernel
theorem dX4_topNow_32 : decode cX4_topNow 32 = .ok (.if_icmp .gt 94, 3) := by decide +kernel
theorem dX4_topNow_35 : decode cX4_topNow 35 = .ok (.iconst 0, 1) := by decide +kernel
theorem dX4_topNow_36 : decode cX4_topNow 36 = .ok (.istore 5, 2) := by decide +kernel
theorem dX4_topNow_38 : decode cX4_topNow 38 = .ok (.iload 5, 2) := by decide +kernel
theorem dX4_topNow_40 : decode cX4_topNow 40 = .ok (.aload_n 0, 1) := by decide +kernel
theorem dX4_topNow_41 : decode cX4_topNow 41 = .ok (.getfield 82, 3) := by decide +kernel
theorem dX4_topNow_44 : decode cX4_topNow 44 = .ok (.if_icmp .ge 76, 3) := by decide +kernel
theorem dX4_topNow_47 : decode cX4_topNow 47 = .ok (.iload 5, 2) := by decide +kernel
theorem dX4_topNow_49 : decode cX4_topNow 49 = .ok (.iload_n 2, 1) := by decide +kernel
theorem dX4_topNow_50 : decode cX4_topNow 50 = .ok (.if_icmp .eq 31, 3) := by decide +kernel
theorem dX4_topNow_53 : decode cX4_topNow 53 = .ok (.aload_n 0, 1) := by decide +kernel
theorem dX4_topNow_54 : decode cX4_topNow 54 = .ok (.iload 5, 2) := by decide +kernel
theorem dX4_topNow_56 : decode cX4_topNow 56 = .ok (.invokevirtual 146, 3) := by decide +kernel
theorem dX4_topNow_59 : decode cX4_topNow 59 = .ok (.iload 4, 2) := by decide +kernel
theorem dX4_topNow_61 : decode cX4_topNow 61 = .ok (.if_icmp .lt 20, 3) := by decide +kernel
theorem dX4_topNow_64 : decode cX4_topNow 64 = .ok (.aload_n 0, 1) := by decide +kernel
theorem dX4_topNow_65 : decode cX4_topNow 65 = .ok (.iload_n 2, 1) := by decide +kernel
theorem dX4_topNow_66 : decode cX4_topNow 66 = .ok (.invokevirtual 146, 3) := by decide +kernel
theorem dX4_topNow_69 : decode cX4_topNow 69 = .ok (.iload 4, 2) := by decide +kernel
theorem dX4_topNow_71 : decode cX4_topNow 71 = .ok (.iadd, 1) := by decide +kernel
theorem dX4_topNow_72 : decode cX4_topNow 72 = .ok (.bipush 20, 2) := by decide +kernel
theorem dX4_topNow_74 : decode cX4_topNow 74 = .ok (.if_icmp .gt 7, 3) := by decide +kernel
theorem dX4_topNow_77 : decode cX4_topNow 77 = .ok (.iconst 1, 1) := by decide +kernel
theorem dX4_topNow_78 : decode cX4_topNow 78 = .ok (.goto 4, 3) := by decide +kernel
theorem dX4_topNow_81 : decode cX4_topNow 81 = .ok (.iconst 0, 1) := by decide +kernel
theorem dX4_topNow_82 : decode cX4_topNow 82 = .ok (.istore 6, 2) := by decide +kernel
theorem dX4_topNow_84 : decode cX4_topNow 84 = .ok (.iload 6, 2) := by decide +kernel
theorem dX4_topNow_86 : decode cX4_topNow 86 = .ok (.ifCond .eq 28, 3) := by decide +kernel
theorem dX4_topNow_89 : decode cX4_topNow 89 = .ok (.aload_n 0, 1) := by decide +kernel
theorem dX4_topNow_90 : decode cX4_topNow 90 = .ok (.iload_n 2, 1) := by decide +kernel
theorem dX4_topNow_91 : decode cX4_topNow 91 = .ok (.iload 5, 2) := by decide +kernel
theorem dX4_topNow_93 : decode cX4_topNow 93 = .ok (.iload 4, 2) := by decide +kernel
theorem dX4_topNow_95 : decode cX4_topNow 95 = .ok (.iload_n 1, 1) := by decide +kernel
theorem dX4_topNow_96 : decode cX4_topNow 96 = .ok (.invokevirtual 175, 3) := by decide +kernel
theorem dX4_topNow_99 : decode cX4_topNow 99 = .ok (.ifCond .eq 15, 3) := by decide +kernel
theorem dX4_topNow_102 : decode cX4_topNow 102 = .ok (.iload_n 3, 1) := by decide +kernel
theorem dX4_topNow_103 : decode cX4_topNow 103 = .ok (.ifCond .ne 8, 3) := by decide +kernel
theorem dX4_topNow_106 : decode cX4_topNow 106 = .ok (.iload 4, 2) := by decide +kernel
theorem dX4_topNow_108 : decode cX4_topNow 108 = .ok (.goto 5, 3) := by decide +kernel
theorem dX4_topNow_111 : decode cX4_topNow 111 = .ok (.iload 5, 2) := by decide +kernel
theorem dX4_topNow_113 : decode cX4_topNow 113 = .ok (.ireturn, 1) := by decide +kernel
theorem dX4_topNow_114 : decode cX4_topNow 114 = .ok (.iinc 5 1, 3) := by decide +kernel
theorem dX4_topNow_117 : decode cX4_topNow 117 = .ok (.goto (-79), 3) := by decide +kernel
theorem dX4_topNow_120 : decode cX4_topNow 120 = .ok (.iinc 4 1, 3) := by decide +kernel
theorem dX4_topNow_123 : decode cX4_topNow 123 = .ok (.goto (-95), 3) := by decide +kernel
theorem dX4_topNow_126 : decode cX4_topNow 126 = .ok (.iconst (-1), 1) := by decide +kernel
theorem dX4_topNow_127 : decode cX4_topNow 127 = .ok (.ireturn, 1) := by decide +kernel
set_option maxRecDepth 20000 in
theorem ggX4_top_X4_isCask : GoodIn wsX4_top wsX4_isCask := goodIn_r _ [5, 6, 7, 8, 4, 9, 75, 76, 77, 78, 79, 80, 81, 82, 83, 84, 85, 86, 87, 88, 89, 90, 91, 92, 93, 94, 95, 96, 97, 98, 99, 100, 101, 102, 103, 104] (by decide +kernel) (by decide +kernel)
set_option maxRecDepth 20000 in
theorem gX4_top_X4_isCask : GoodIn wsX4_top (wsV RX4 126 RX4 yX4_isCask wsX4_isCask) := goodIn_app (goodIn_of _ (by decide +kernel)) ggX4_top_X4_isCask
set_option maxRecDepth 20000 in
theorem ggX4_top_X4_arePeople : GoodIn wsX4_top wsX4_arePeople := goodIn_r _ [13, 14, 7, 8, 4, 9, 75, 76, 77, 78, 79, 80, 81, 82, 83, 84, 85, 86, 87, 88, 89, 90, 91, 92, 93, 94, 95, 96, 97, 98, 99, 100, 101, 102, 103, 104] (by decide +kernel) (by decide +kernel)
set_option maxRecDepth 20000 in
theorem gX4_top_X4_arePeople : GoodIn wsX4_top (wsV RX4 159 RX4 yX4_arePeople wsX4_arePeople) := goodIn_app (goodIn_of _ (by decide +kernel)) ggX4_top_X4_arePeople
set_option maxRecDepth 20000 in
theorem ggX4_top_X4_within : GoodIn wsX4_top wsX4_within := goodIn_r _ [9] (by decide +kernel) (by decide +kernel)
set_option maxRecDepth 20000 in
theorem gX4_top_X4_within : GoodIn wsX4_top (va_wsS RX4 56 yX4_within wsX4_within) := goodIn_app (goodIn_of _ (by decide +kernel)) ggX4_top_X4_within
set_option maxRecDepth 20000 in
theorem ggX4_top_X4_topNow : GoodIn wsX4_top wsX4_topNow := goodIn_r _ [18, 6, 19, 20, 21, 4, 22, 23, 24, 25, 26, 27, 28, 29, 30, 31, 32, 33, 34, 35, 36, 14, 37, 38, 39, 40, 41, 42, 43, 44, 45, 46, 47, 48, 49, 50, 51, 52, 53, 54, 55, 56, 57, 58, 59, 60, 61, 62, 63, 64, 65, 66, 67, 68, 69, 70, 71, 72, 73, 74, 75, 76, 77, 78, 79, 80, 81, 82, 83, 84, 85, 86, 87, 88, 89, 90, 91, 92, 93, 94, 95, 96, 97, 98, 99, 100, 101, 102, 103, 104] (by decide +kernel) (by decide +kernel)
set_option maxRecDepth 20000 in
theorem gX4_top_X4_topNow : GoodIn wsX4_top (wsV RX4 179 RX4 yX4_topNow wsX4_topNow) := goodIn_app (goodIn_of _ (by decide +kernel)) ggX4_top_X4_topNow
theorem dX4_top_0 : decode cX4_top 0 = .ok (.aload_n 0, 1) := by decide +kernel
theorem dX4_top_1 : decode cX4_top 1 = .ok (.iload_n 2, 1) := by decide +kernel
theorem dX4_top_2 : decode cX4_top 2 = .ok (.invokevirtual 126, 3) := by decide +kernel
theorem dX4_top_5 : decode cX4_top 5 = .ok (.ifCond .ne 6, 3) := by decide +kernel
theorem dX4_top_8 : decode cX4_top 8 = .ok (.bipush (-101), 2) := by decide +kernel
theorem dX4_top_10 : decode cX4_top 10 = .ok (.ireturn, 1) := by decide +kernel
theorem dX4_top_11 : decode cX4_top 11 = .ok (.aload_n 0, 1) := by decide +kernel
theorem dX4_top_12 : decode cX4_top 12 = .ok (.iload_n 1, 1) := by decide +kernel
theorem dX4_top_13 : decode cX4_top 13 = .ok (.invokevirtual 159, 3) := by decide +kernel
theorem dX4_top_16 : decode cX4_top 16 = .ok (.ifCond .eq 22, 3) := by decide +kernel
theorem dX4_top_19 : decode cX4_top 19 = .ok (.iload_n 3, 1) := by decide +kernel
theorem dX4_top_20 : decode cX4_top 20 = .ok (.iconst 0, 1) := by decide +kernel
theorem dX4_top_21 : decode cX4_top 21 = .ok (.iconst 1, 1) := by decide +kernel
theorem dX4_top_22 : decode cX4_top 22 = .ok (.invokestatic 56, 3) := by decide +kernel
theorem dX4_top_25 : decode cX4_top 25 = .ok (.ifCond .eq 13, 3) := by decide +kernel
theorem dX4_top_28 : decode cX4_top 28 = .ok (.aload_n 0, 1) := by decide +kernel
theorem dX4_top_29 : decode cX4_top 29 = .ok (.iload_n 1, 1) := by decide +kernel
theorem dX4_top_30 : decode cX4_top 30 = .ok (.iload_n 2, 1) := by decide +kernel
theorem dX4_top_31 : decode cX4_top 31 = .ok (.iload_n 3, 1) := by decide +kernel
theorem dX4_top_32 : decode cX4_top 32 = .ok (.invokevirtual 179, 3) := by decide +kernel
theorem dX4_top_35 : decode cX4_top 35 = .ok (.goto 5, 3) := by decide +kernel
theorem dX4_top_38 : decode cX4_top 38 = .ok (.bipush (-102), 2) := by decide +kernel
theorem dX4_top_40 : decode cX4_top 40 = .ok (.ireturn, 1) := by decide +kernel
set_option maxRecDepth 20000 in
theorem ggX4_trial_X4_isCask : GoodIn wsX4_trial wsX4_isCask := goodIn_r _ [8, 9, 10, 11, 7, 12, 13, 14, 15, 16, 17, 18, 19, 20, 21, 22, 23, 24, 25, 26, 27, 28, 29, 30, 31, 32, 33, 34, 35, 36, 37, 38, 39, 40, 41, 42] (by decide +kernel) (by decide +kernel)
set_option maxRecDepth 20000 in
theorem gX4_trial_X4_isCask : GoodIn wsX4_trial (wsV RX4 126 RX4 yX4_isCask wsX4_isCask) := goodIn_app (goodIn_of _ (by decide +kernel)) ggX4_trial_X4_isCask
theorem dX4_trial_0 : decode cX4_trial 0 = .ok (.aload_n 0, 1) := by decide +kernel
theorem dX4_trial_1 : decode cX4_trial 1 = .ok (.iload_n 1, 1) := by decide +kernel
theorem dX4_trial_2 : decode cX4_trial 2 = .ok (.invokevirtual 126, 3) := by decide +kernel
theorem dX4_trial_5 : decode cX4_trial 5 = .ok (.ifCond .ne 6, 3) := by decide +kernel
theorem dX4_trial_8 : decode cX4_trial 8 = .ok (.bipush (-101), 2) := by decide +kernel
theorem dX4_trial_10 : decode cX4_trial 10 = .ok (.ireturn, 1) := by decide +kernel
theorem dX4_trial_11 : decode cX4_trial 11 = .ok (.aload_n 0, 1) := by decide +kernel
theorem dX4_trial_12 : decode cX4_trial 12 = .ok (.getfield 91, 3) := by decide +kernel
theorem dX4_trial_15 : decode cX4_trial 15 = .ok (.bipush 8, 2) := by decide +kernel
theorem dX4_trial_17 : decode cX4_trial 17 = .ok (.if_icmp .ne 6, 3) := by decide +kernel
theorem dX4_trial_20 : decode cX4_trial 20 = .ok (.bipush (-104), 2) := by decide +kernel
theorem dX4_trial_22 : decode cX4_trial 22 = .ok (.ireturn, 1) := by decide +kernel
theorem dX4_trial_23 : decode cX4_trial 23 = .ok (.aload_n 0, 1) := by decide +kernel
theorem dX4_trial_24 : decode cX4_trial 24 = .ok (.getfield 25, 3) := by decide +kernel
theorem dX4_trial_27 : decode cX4_trial 27 = .ok (.aload_n 0, 1) := by decide +kernel
theorem dX4_trial_28 : decode cX4_trial 28 = .ok (.getfield 91, 3) := by decide +kernel
theorem dX4_trial_31 : decode cX4_trial 31 = .ok (.iload_n 1, 1) := by decide +kernel
theorem dX4_trial_32 : decode cX4_trial 32 = .ok (.iastore, 1) := by decide +kernel
theorem dX4_trial_33 : decode cX4_trial 33 = .ok (.aload_n 0, 1) := by decide +kernel
theorem dX4_trial_34 : decode cX4_trial 34 = .ok (.getfield 28, 3) := by decide +kernel
theorem dX4_trial_37 : decode cX4_trial 37 = .ok (.aload_n 0, 1) := by decide +kernel
theorem dX4_trial_38 : decode cX4_trial 38 = .ok (.getfield 91, 3) := by decide +kernel
theorem dX4_trial_41 : decode cX4_trial 41 = .ok (.iload_n 2, 1) := by decide +kernel
theorem dX4_trial_42 : decode cX4_trial 42 = .ok (.ifCond .eq 7, 3) := by decide +kernel
theorem dX4_trial_45 : decode cX4_trial 45 = .ok (.iconst 1, 1) := by decide +kernel
theorem dX4_trial_46 : decode cX4_trial 46 = .ok (.goto 4, 3) := by decide +kernel
theorem dX4_trial_49 : decode cX4_trial 49 = .ok (.iconst 0, 1) := by decide +kernel
theorem dX4_trial_50 : decode cX4_trial 50 = .ok (.iastore, 1) := by decide +kernel
theorem dX4_trial_51 : decode cX4_trial 51 = .ok (.aload_n 0, 1) := by decide +kernel
theorem dX4_trial_52 : decode cX4_trial 52 = .ok (.dup, 1) := by decide +kernel
theorem dX4_trial_53 : decode cX4_trial 53 = .ok (.getfield 91, 3) := by decide +kernel
theorem dX4_trial_56 : decode cX4_trial 56 = .ok (.iconst 1, 1) := by decide +kernel
theorem dX4_trial_57 : decode cX4_trial 57 = .ok (.iadd, 1) := by decide +kernel
theorem dX4_trial_58 : decode cX4_trial 58 = .ok (.putfield 91, 3) := by decide +kernel
theorem dX4_trial_61 : decode cX4_trial 61 = .ok (.aload_n 0, 1) := by decide +kernel
theorem dX4_trial_62 : decode cX4_trial 62 = .ok (.getfield 91, 3) := by decide +kernel
theorem dX4_trial_65 : decode cX4_trial 65 = .ok (.ireturn, 1) := by decide +kernel
theorem dX4_forget_0 : decode cX4_forget 0 = .ok (.aload_n 0, 1) := by decide +kernel
theorem dX4_forget_1 : decode cX4_forget 1 = .ok (.getfield 91, 3) := by decide +kernel
theorem dX4_forget_4 : decode cX4_forget 4 = .ok (.istore_n 1, 1) := by decide +kernel
theorem dX4_forget_5 : decode cX4_forget 5 = .ok (.aload_n 0, 1) := by decide +kernel
theorem dX4_forget_6 : decode cX4_forget 6 = .ok (.iconst 0, 1) := by decide +kernel
theorem dX4_forget_7 : decode cX4_forget 7 = .ok (.putfield 91, 3) := by decide +kernel
theorem dX4_forget_10 : decode cX4_forget 10 = .ok (.iload_n 1, 1) := by decide +kernel
theorem dX4_forget_11 : decode cX4_forget 11 = .ok (.ireturn, 1) := by decide +kernel
set_option maxRecDepth 20000 in
theorem ggX4_isBorn_X4_think : GoodIn wsX4_isBorn wsX4_think := goodIn_r _ [8, 9, 10, 11, 7, 12, 13, 14, 15, 16, 17, 18, 43, 44, 45, 46, 47, 48, 49, 50, 51, 52, 53, 54, 55, 56, 57, 58, 59, 60, 61, 62, 63, 64, 65, 66, 67, 68, 69, 70, 71, 72] (by decide +kernel) (by decide +kernel)
set_option maxRecDepth 20000 in
theorem gX4_isBorn_X4_think : GoodIn wsX4_isBorn (wsV RX4 120 RX4 yX4_think wsX4_think) := goodIn_app (goodIn_of _ (by decide +kernel)) ggX4_isBorn_X4_think
set_option maxRecDepth 20000 in
theorem ggX4_isBorn_X4_mayThought : GoodIn wsX4_isBorn wsX4_mayThought := goodIn_r _ [22, 23, 24, 25, 7, 26, 13, 27, 28, 29, 30, 31, 32, 33, 34, 35, 36, 37, 38, 39, 40, 41, 42, 43, 44, 45, 46, 47, 48, 49, 50, 51, 52, 53, 54, 55, 56, 57, 58, 59, 60, 61, 62, 63, 64, 65, 66, 67, 68, 69, 70, 71, 72] (by decide +kernel) (by decide +kernel)
set_option maxRecDepth 20000 in
theorem gX4_isBorn_X4_mayThought : GoodIn wsX4_isBorn (wsV RX4 117 RX4 yX4_mayThought wsX4_mayThought) := goodIn_app (goodIn_of _ (by decide +kernel)) ggX4_isBorn_X4_mayThought
theorem dX4_isBorn_0 : decode cX4_isBorn 0 = .ok (.iconst 1, 1) := by decide +kernel
theorem dX4_isBorn_1 : decode cX4_isBorn 1 = .ok (.istore_n 3, 1) := by decide +kernel
theorem dX4_isBorn_2 : decode cX4_isBorn 2 = .ok (.iconst 0, 1) := by decide +kernel
theorem dX4_isBorn_3 : decode cX4_isBorn 3 = .ok (.istore 4, 2) := by decide +kernel
theorem dX4_isBorn_5 : decode cX4_isBorn 5 = .ok (.iload 4, 2) := by decide +kernel
theorem dX4_isBorn_7 : decode cX4_isBorn 7 = .ok (.aload_n 0, 1) := by decide +kernel
theorem dX4_isBorn_8 : decode cX4_isBorn 8 = .ok (.getfield 91, 3) := by decide +kernel
theorem dX4_isBorn_11 : decode cX4_isBorn 11 = .ok (.if_icmp .ge 54, 3) := by decide +kernel
theorem dX4_isBorn_14 : decode cX4_isBorn 14 = .ok (.aload_n 0, 1) := by decide +kernel
theorem dX4_isBorn_15 : decode cX4_isBorn 15 = .ok (.aload_n 0, 1) := by decide +kernel
theorem dX4_isBorn_16 : decode cX4_isBorn 16 = .ok (.getfield 25, 3) := by decide +kernel
theorem dX4_isBorn_19 : decode cX4_isBorn 19 = .ok (.iload 4, 2) := by decide +kernel
theorem dX4_isBorn_21 : decode cX4_isBorn 21 = .ok (.iaload, 1) := by decide +kernel
theorem dX4_isBorn_22 : decode cX4_isBorn 22 = .ok (.invokevirtual 120, 3) := by decide +kernel
theorem dX4_isBorn_25 : decode cX4_isBorn 25 = .ok (.iload_n 3, 1) := by decide +kernel
theorem dX4_isBorn_26 : decode cX4_isBorn 26 = .ok (.ifCond .eq 31, 3) := by decide +kernel
theorem dX4_isBorn_29 : decode cX4_isBorn 29 = .ok (.aload_n 0, 1) := by decide +kernel
theorem dX4_isBorn_30 : decode cX4_isBorn 30 = .ok (.iload_n 1, 1) := by decide +kernel
theorem dX4_isBorn_31 : decode cX4_isBorn 31 = .ok (.iload_n 2, 1) := by decide +kernel
theorem dX4_isBorn_32 : decode cX4_isBorn 32 = .ok (.invokevirtual 117, 3) := by decide +kernel
theorem dX4_isBorn_35 : decode cX4_isBorn 35 = .ok (.aload_n 0, 1) := by decide +kernel
theorem dX4_isBorn_36 : decode cX4_isBorn 36 = .ok (.getfield 28, 3) := by decide +kernel
theorem dX4_isBorn_39 : decode cX4_isBorn 39 = .ok (.iload 4, 2) := by decide +kernel
theorem dX4_isBorn_41 : decode cX4_isBorn 41 = .ok (.iaload, 1) := by decide +kernel
theorem dX4_isBorn_42 : decode cX4_isBorn 42 = .ok (.ifCond .ne 7, 3) := by decide +kernel
theorem dX4_isBorn_45 : decode cX4_isBorn 45 = .ok (.iconst 1, 1) := by decide +kernel
theorem dX4_isBorn_46 : decode cX4_isBorn 46 = .ok (.goto 4, 3) := by decide +kernel
theorem dX4_isBorn_49 : decode cX4_isBorn 49 = .ok (.iconst 0, 1) := by decide +kernel
theorem dX4_isBorn_50 : decode cX4_isBorn 50 = .ok (.if_icmp .ne 7, 3) := by decide +kernel
theorem dX4_isBorn_53 : decode cX4_isBorn 53 = .ok (.iconst 1, 1) := by decide +kernel
theorem dX4_isBorn_54 : decode cX4_isBorn 54 = .ok (.goto 4, 3) := by decide +kernel
theorem dX4_isBorn_57 : decode cX4_isBorn 57 = .ok (.iconst 0, 1) := by decide +kernel
theorem dX4_isBorn_58 : decode cX4_isBorn 58 = .ok (.istore_n 3, 1) := by decide +kernel
theorem dX4_isBorn_59 : decode cX4_isBorn 59 = .ok (.iinc 4 1, 3) := by decide +kernel
theorem dX4_isBorn_62 : decode cX4_isBorn 62 = .ok (.goto (-57), 3) := by decide +kernel
theorem dX4_isBorn_65 : decode cX4_isBorn 65 = .ok (.iload_n 3, 1) := by decide +kernel
theorem dX4_isBorn_66 : decode cX4_isBorn 66 = .ok (.ireturn, 1) := by decide +kernel
set_option maxRecDepth 20000 in
theorem ggX4_birthsNow_X4_isBorn : GoodIn wsX4_birthsNow wsX4_isBorn := goodIn_r _ [5, 6, 7, 8, 9, 10, 11, 4, 12, 13, 14, 15, 16, 17, 18, 19, 20, 21, 22, 23, 24, 25, 26, 27, 28, 29, 30, 31, 32, 33, 34, 35, 36, 37, 38, 39, 40, 41, 42, 43, 44, 45, 46, 47, 48, 49, 50, 51, 52, 53, 54, 55, 56, 57, 58, 59, 60, 61, 62, 63, 64, 65, 66, 67, 68, 69, 70, 71, 72, 73, 74, 75, 76] (by decide +kernel) (by decide +kernel)
set_option maxRecDepth 20000 in
theorem gX4_birthsNow_X4_isBorn : GoodIn wsX4_birthsNow (wsV RX4 182 RX4 yX4_isBorn wsX4_isBorn) := goodIn_app (goodIn_of _ (by decide +kernel)) ggX4_birthsNow_X4_isBorn
theorem dX4_birthsNow_0 : decode cX4_birthsNow 0 = .ok (.iconst 0, 1) := by decide +kernel
theorem dX4_birthsNow_1 : decode cX4_birthsNow 1 = .ok (.istore_n 2, 1) := by decide +kernel
theorem dX4_birthsNow_2 : decode cX4_birthsNow 2 = .ok (.iconst 0, 1) := by decide +kernel
theorem dX4_birthsNow_3 : decode cX4_birthsNow 3 = .ok (.istore_n 3, 1) := by decide +kernel
theorem dX4_birthsNow_4 : decode cX4_birthsNow 4 = .ok (.iload_n 3, 1) := by decide +kernel
theorem dX4_birthsNow_5 : decode cX4_birthsNow 5 = .ok (.bipush 10, 2) := by decide +kernel
theorem dX4_birthsNow_7 : decode cX4_birthsNow 7 = .ok (.if_icmp .ge 28, 3) := by decide +kernel
theorem dX4_birthsNow_10 : decode cX4_birthsNow 10 = .ok (.iload_n 2, 1) := by decide +kernel
theorem dX4_birthsNow_11 : decode cX4_birthsNow 11 = .ok (.aload_n 0, 1) := by decide +kernel
theorem dX4_birthsNow_12 : decode cX4_birthsNow 12 = .ok (.iload_n 1, 1) := by decide +kernel
theorem dX4_birthsNow_13 : decode cX4_birthsNow 13 = .ok (.iload_n 3, 1) := by decide +kernel
theorem dX4_birthsNow_14 : decode cX4_birthsNow 14 = .ok (.invokevirtual 182, 3) := by decide +kernel
theorem dX4_birthsNow_17 : decode cX4_birthsNow 17 = .ok (.ifCond .eq 9, 3) := by decide +kernel
theorem dX4_birthsNow_20 : decode cX4_birthsNow 20 = .ok (.iconst 1, 1) := by decide +kernel
theorem dX4_birthsNow_21 : decode cX4_birthsNow 21 = .ok (.iload_n 3, 1) := by decide +kernel
theorem dX4_birthsNow_22 : decode cX4_birthsNow 22 = .ok (.ishl, 1) := by decide +kernel
theorem dX4_birthsNow_23 : decode cX4_birthsNow 23 = .ok (.goto 4, 3) := by decide +kernel
theorem dX4_birthsNow_26 : decode cX4_birthsNow 26 = .ok (.iconst 0, 1) := by decide +kernel
theorem dX4_birthsNow_27 : decode cX4_birthsNow 27 = .ok (.ior, 1) := by decide +kernel
theorem dX4_birthsNow_28 : decode cX4_birthsNow 28 = .ok (.istore_n 2, 1) := by decide +kernel
theorem dX4_birthsNow_29 : decode cX4_birthsNow 29 = .ok (.iinc 3 1, 3) := by decide +kernel
theorem dX4_birthsNow_32 : decode cX4_birthsNow 32 = .ok (.goto (-28), 3) := by decide +kernel
theorem dX4_birthsNow_35 : decode cX4_birthsNow 35 = .ok (.iload_n 2, 1) := by decide +kernel
theorem dX4_birthsNow_36 : decode cX4_birthsNow 36 = .ok (.ireturn, 1) := by decide +kernel
set_option maxRecDepth 20000 in
theorem ggX4_births_X4_within : GoodIn wsX4_births wsX4_within := goodIn_r _ [5] (by decide +kernel) (by decide +kernel)
set_option maxRecDepth 20000 in
theorem gX4_births_X4_within : GoodIn wsX4_births (va_wsS RX4 56 yX4_within wsX4_within) := goodIn_app (goodIn_of _ (by decide +kernel)) ggX4_births_X4_within
set_option maxRecDepth 20000 in
theorem ggX4_births_X4_birthsNow : GoodIn wsX4_births wsX4_birthsNow := goodIn_r _ [9, 10, 11, 12, 4, 13, 14, 15, 16, 17, 18, 19, 20, 21, 22, 23, 24, 25, 26, 27, 28, 29, 30, 31, 32, 33, 34, 35, 36, 37, 38, 39, 40, 41, 42, 43, 44, 45, 46, 47, 48, 49, 50, 51, 52, 53, 54, 55, 56, 57, 58, 59, 60, 61, 62, 63, 64, 65, 66, 67, 68, 69, 70, 71, 72, 73, 74, 75, 76, 77, 78, 79, 80, 81, 82, 83, 84] (by decide +kernel) (by decide +kernel)
set_option maxRecDepth 20000 in
theorem gX4_births_X4_birthsNow : GoodIn wsX4_births (wsV RX4 185 RX4 yX4_birthsNow wsX4_birthsNow) := goodIn_app (goodIn_of _ (by decide +kernel)) ggX4_births_X4_birthsNow
theorem dX4_births_0 : decode cX4_births 0 = .ok (.iload_n 1, 1) := by decide +kernel
theorem dX4_births_1 : decode cX4_births 1 = .ok (.iconst 0, 1) := by decide +kernel
theorem dX4_births_2 : decode cX4_births 2 = .ok (.iconst 4, 1) := by decide +kernel
theorem dX4_births_3 : decode cX4_births 3 = .ok (.invokestatic 56, 3) := by decide +kernel
theorem dX4_births_6 : decode cX4_births 6 = .ok (.ifCond .ne 6, 3) := by decide +kernel
theorem dX4_births_9 : decode cX4_births 9 = .ok (.bipush (-102), 2) := by decide +kernel
theorem dX4_births_11 : decode cX4_births 11 = .ok (.ireturn, 1) := by decide +kernel
theorem dX4_births_12 : decode cX4_births 12 = .ok (.aload_n 0, 1) := by decide +kernel
theorem dX4_births_13 : decode cX4_births 13 = .ok (.getfield 82, 3) := by decide +kernel
theorem dX4_births_16 : decode cX4_births 16 = .ok (.ifCond .ne 8, 3) := by decide +kernel
theorem dX4_births_19 : decode cX4_births 19 = .ok (.bipush (-103), 2) := by decide +kernel
theorem dX4_births_21 : decode cX4_births 21 = .ok (.goto 8, 3) := by decide +kernel
theorem dX4_births_24 : decode cX4_births 24 = .ok (.aload_n 0, 1) := by decide +kernel
theorem dX4_births_25 : decode cX4_births 25 = .ok (.iload_n 1, 1) := by decide +kernel
theorem dX4_births_26 : decode cX4_births 26 = .ok (.invokevirtual 185, 3) := by decide +kernel
theorem dX4_births_29 : decode cX4_births 29 = .ok (.ireturn, 1) := by decide +kernel
set_option maxRecDepth 20000 in
theorem ggX4_askNow_X4_birthsNow : GoodIn wsX4_askNow wsX4_birthsNow := goodIn_r _ [7, 8, 9, 10, 6, 11, 12, 13, 14, 15, 16, 17, 18, 19, 20, 21, 22, 23, 24, 25, 26, 27, 28, 29, 30, 31, 32, 33, 34, 35, 36, 37, 38, 39, 40, 41, 42, 43, 44, 45, 46, 47, 48, 49, 50, 51, 52, 56, 57, 58, 59, 60, 61, 62, 63, 64, 65, 66, 67, 68, 69, 70, 71, 72, 73, 74, 75, 76, 77, 78, 79, 80, 81, 82, 83, 84, 85] (by decide +kernel) (by decide +kernel)
set_option maxRecDepth 20000 in
theorem gX4_askNow_X4_birthsNow : GoodIn wsX4_askNow (wsV RX4 185 RX4 yX4_birthsNow wsX4_birthsNow) := goodIn_app (goodIn_of _ (by decide +kernel)) ggX4_askNow_X4_birthsNow
set_option maxRecDepth 20000 in
theorem ggX4_askNow_X4_think : GoodIn wsX4_askNow wsX4_think := goodIn_r _ [18, 19, 20, 21, 6, 22, 23, 24, 25, 26, 27, 28, 56, 57, 58, 59, 60, 61, 62, 63, 64, 65, 66, 67, 68, 69, 70, 71, 72, 73, 74, 75, 76, 77, 78, 79, 80, 81, 82, 83, 84, 85] (by decide +kernel) (by decide +kernel)
set_option maxRecDepth 20000 in
theorem gX4_askNow_X4_think : GoodIn wsX4_askNow (wsV RX4 120 RX4 yX4_think wsX4_think) := goodIn_app (goodIn_of _ (by decide +kernel)) ggX4_askNow_X4_think
set_option maxRecDepth 20000 in
theorem ggX4_askNow_X4_has : GoodIn wsX4_askNow wsX4_has := goodIn_r _ [55] (by decide +kernel) (by decide +kernel)
set_option maxRecDepth 20000 in
theorem gX4_askNow_X4_has : GoodIn wsX4_askNow (va_wsS RX4 153 yX4_has wsX4_has) := goodIn_app (goodIn_of _ (by decide +kernel)) ggX4_askNow_X4_has
set_option maxRecDepth 20000 in
theorem ggX4_askNow_X4_mayThought : GoodIn wsX4_askNow wsX4_mayThought := goodIn_r _ [32, 33, 34, 35, 6, 36, 23, 37, 38, 39, 40, 41, 42, 43, 44, 45, 46, 47, 48, 49, 50, 51, 52, 56, 57, 58, 59, 60, 61, 62, 63, 64, 65, 66, 67, 68, 69, 70, 71, 72, 73, 74, 75, 76, 77, 78, 79, 80, 81, 82, 83, 84, 85] (by decide +kernel) (by decide +kernel)
set_option maxRecDepth 20000 in
theorem gX4_askNow_X4_mayThought : GoodIn wsX4_askNow (wsV RX4 117 RX4 yX4_mayThought wsX4_mayThought) := goodIn_app (goodIn_of _ (by decide +kernel)) ggX4_askNow_X4_mayThought
set_option maxRecDepth 20000 in
theorem ggX4_askNow_X4_size : GoodIn wsX4_askNow wsX4_size := goodIn_r _ [52] (by decide +kernel) (by decide +kernel)
set_option maxRecDepth 20000 in
theorem gX4_askNow_X4_size : GoodIn wsX4_askNow (va_wsS RX4 113 yX4_size wsX4_size) := goodIn_app (goodIn_of _ (by decide +kernel)) ggX4_askNow_X4_size
set_option maxRecDepth 20000 in
theorem ggX4_askNow_X4_litresThought : GoodIn wsX4_askNow wsX4_litresThought := goodIn_r _ [41, 23, 56, 57, 58, 59, 60, 61, 62, 63, 64, 65, 66, 67, 68, 69, 70, 71, 72, 73, 74, 75, 76, 77, 78, 79, 80, 81, 82, 83, 84, 85] (by decide +kernel) (by decide +kernel)
set_option maxRecDepth 20000 in
theorem gX4_askNow_X4_litresThought : GoodIn wsX4_askNow (wsV RX4 101 RX4 yX4_litresThought wsX4_litresThought) := goodIn_app (goodIn_of _ (by decide +kernel)) ggX4_askNow_X4_litresThought
theorem dX4_askNow_0 : decode cX4_askNow 0 = .ok (.aload_n 0, 1) := by decide +kernel
theorem dX4_askNow_1 : decode cX4_askNow 1 = .ok (.iload_n 1, 1) := by decide +kernel
theorem dX4_askNow_2 : decode cX4_askNow 2 = .ok (.invokevirtual 185, 3) := by decide +kernel
theorem dX4_askNow_5 : decode cX4_askNow 5 = .ok (.istore_n 2, 1) := by decide +kernel
theorem dX4_askNow_6 : decode cX4_askNow 6 = .ok (.iconst (-1), 1) := by decide +kernel
theorem dX4_askNow_7 : decode cX4_askNow 7 = .ok (.istore_n 3, 1) := by decide +kernel
theorem dX4_askNow_8 : decode cX4_askNow 8 = .ok (.ldc 188, 2) := by decide +kernel
theorem dX4_askNow_10 : decode cX4_askNow 10 = .ok (.istore 4, 2) := by decide +kernel
theorem dX4_askNow_12 : decode cX4_askNow 12 = .ok (.iconst 0, 1) := by decide +kernel
theorem dX4_askNow_13 : decode cX4_askNow 13 = .ok (.istore 5, 2) := by decide +kernel
theorem dX4_askNow_15 : decode cX4_askNow 15 = .ok (.iload 5, 2) := by decide +kernel
theorem dX4_askNow_17 : decode cX4_askNow 17 = .ok (.aload_n 0, 1) := by decide +kernel
theorem dX4_askNow_18 : decode cX4_askNow 18 = .ok (.getfield 82, 3) := by decide +kernel
theorem dX4_askNow_21 : decode cX4_askNow 21 = .ok (.if_icmp .ge 134, 3) := by decide +kernel
theorem dX4_askNow_24 : decode cX4_askNow 24 = .ok (.iload_n 2, 1) := by decide +kernel
theorem dX4_askNow_25 : decode cX4_askNow 25 = .ok (.ifCond .eq 130, 3) := by decide +kernel
theorem dX4_askNow_28 : decode cX4_askNow 28 = .ok (.aload_n 0, 1) := by decide +kernel
theorem dX4_askNow_29 : decode cX4_askNow 29 = .ok (.iload 5, 2) := by decide +kernel
theorem dX4_askNow_31 : decode cX4_askNow 31 = .ok (.invokevirtual 120, 3) := by decide +kernel
theorem dX4_askNow_34 : decode cX4_askNow 34 = .ok (.iconst 0, 1) := by decide +kernel
theorem dX4_askNow_35 : decode cX4_askNow 35 = .ok (.istore 6, 2) := by decide +kernel
theorem dX4_askNow_37 : decode cX4_askNow 37 = .ok (.iconst 0, 1) := by decide +kernel
theorem dX4_askNow_38 : decode cX4_askNow 38 = .ok (.istore 7, 2) := by decide +kernel
theorem dX4_askNow_40 : decode cX4_askNow 40 = .ok (.iload 7, 2) := by decide +kernel
theorem dX4_askNow_42 : decode cX4_askNow 42 = .ok (.bipush 10, 2) := by decide +kernel
theorem dX4_askNow_44 : decode cX4_askNow 44 = .ok (.if_icmp .ge 38, 3) := by decide +kernel
theorem dX4_askNow_47 : decode cX4_askNow 47 = .ok (.iload 6, 2) := by decide +kernel
theorem dX4_askNow_49 : decode cX4_askNow 49 = .ok (.iload_n 2, 1) := by decide +kernel
theorem dX4_askNow_50 : decode cX4_askNow 50 = .ok (.iload 7, 2) := by decide +kernel
theorem dX4_askNow_52 : decode cX4_askNow 52 = .ok (.invokestatic 153, 3) := by decide +kernel
theorem dX4_askNow_55 : decode cX4_askNow 55 = .ok (.ifCond .eq 17, 3) := by decide +kernel
theorem dX4_askNow_58 : decode cX4_askNow 58 = .ok (.aload_n 0, 1) := by decide +kernel
theorem dX4_askNow_59 : decode cX4_askNow 59 = .ok (.iload_n 1, 1) := by decide +kernel
theorem dX4_askNow_60 : decode cX4_askNow 60 = .ok (.iload 7, 2) := by decide +kernel
theorem dX4_askNow_62 : decode cX4_askNow 62 = .ok (.invokevirtual 117, 3) := by decide +kernel
theorem dX4_askNow_65 : decode cX4_askNow 65 = .ok (.ifCond .eq 7, 3) := by decide +kernel
theorem dX4_askNow_68 : decode cX4_askNow 68 = .ok (.iconst 1, 1) := by decide +kernel
theorem dX4_askNow_69 : decode cX4_askNow 69 = .ok (.goto 4, 3) := by decide +kernel
theorem dX4_askNow_72 : decode cX4_askNow 72 = .ok (.iconst 0, 1) := by decide +kernel
theorem dX4_askNow_73 : decode cX4_askNow 73 = .ok (.iadd, 1) := by decide +kernel
theorem dX4_askNow_74 : decode cX4_askNow 74 = .ok (.istore 6, 2) := by decide +kernel
theorem dX4_askNow_76 : decode cX4_askNow 76 = .ok (.iinc 7 1, 3) := by decide +kernel
theorem dX4_askNow_79 : decode cX4_askNow 79 = .ok (.goto (-39), 3) := by decide +kernel
theorem dX4_askNow_82 : decode cX4_askNow 82 = .ok (.iload_n 2, 1) := by decide +kernel
theorem dX4_askNow_83 : decode cX4_askNow 83 = .ok (.invokestatic 113, 3) := by decide +kernel
theorem dX4_askNow_86 : decode cX4_askNow 86 = .ok (.iload 6, 2) := by decide +kernel
theorem dX4_askNow_88 : decode cX4_askNow 88 = .ok (.isub, 1) := by decide +kernel
theorem dX4_askNow_89 : decode cX4_askNow 89 = .ok (.istore 7, 2) := by decide +kernel
theorem dX4_askNow_91 : decode cX4_askNow 91 = .ok (.aload_n 0, 1) := by decide +kernel
theorem dX4_askNow_92 : decode cX4_askNow 92 = .ok (.invokevirtual 101, 3) := by decide +kernel
theorem dX4_askNow_95 : decode cX4_askNow 95 = .ok (.ifCond .ne 8, 3) := by decide +kernel
theorem dX4_askNow_98 : decode cX4_askNow 98 = .ok (.ldc 188, 2) := by decide +kernel
theorem dX4_askNow_100 : decode cX4_askNow 100 = .ok (.goto 17, 3) := by decide +kernel
theorem dX4_askNow_103 : decode cX4_askNow 103 = .ok (.iload 6, 2) := by decide +kernel
theorem dX4_askNow_105 : decode cX4_askNow 105 = .ok (.iload 7, 2) := by decide +kernel
theorem dX4_askNow_107 : decode cX4_askNow 107 = .ok (.if_icmp .le 8, 3) := by decide +kernel
theorem dX4_askNow_110 : decode cX4_askNow 110 = .ok (.iload 6, 2) := by decide +kernel
theorem dX4_askNow_112 : decode cX4_askNow 112 = .ok (.goto 5, 3) := by decide +kernel
theorem dX4_askNow_115 : decode cX4_askNow 115 = .ok (.iload 7, 2) := by decide +kernel
theorem dX4_askNow_117 : decode cX4_askNow 117 = .ok (.istore 8, 2) := by decide +kernel
theorem dX4_askNow_119 : decode cX4_askNow 119 = .ok (.iload 8, 2) := by decide +kernel
theorem dX4_askNow_121 : decode cX4_askNow 121 = .ok (.iload 4, 2) := by decide +kernel
theorem dX4_askNow_123 : decode cX4_askNow 123 = .ok (.if_icmp .ge 8, 3) := by decide +kernel
theorem dX4_askNow_126 : decode cX4_askNow 126 = .ok (.iload 5, 2) := by decide +kernel
theorem dX4_askNow_128 : decode cX4_askNow 128 = .ok (.goto 4, 3) := by decide +kernel
theorem dX4_askNow_131 : decode cX4_askNow 131 = .ok (.iload_n 3, 1) := by decide +kernel
theorem dX4_askNow_132 : decode cX4_askNow 132 = .ok (.istore_n 3, 1) := by decide +kernel
theorem dX4_askNow_133 : decode cX4_askNow 133 = .ok (.iload 8, 2) := by decide +kernel
theorem dX4_askNow_135 : decode cX4_askNow 135 = .ok (.iload 4, 2) := by decide +kernel
theorem dX4_askNow_137 : decode cX4_askNow 137 = .ok (.if_icmp .ge 8, 3) := by decide +kernel
theorem dX4_askNow_140 : decode cX4_askNow 140 = .ok (.iload 8, 2) := by decide +kernel
theorem dX4_askNow_142 : decode cX4_askNow 142 = .ok (.goto 5, 3) := by decide +kernel
theorem dX4_askNow_145 : decode cX4_askNow 145 = .ok (.iload 4, 2) := by decide +kernel
theorem dX4_askNow_147 : decode cX4_askNow 147 = .ok (.istore 4, 2) := by decide +kernel
theorem dX4_askNow_149 : decode cX4_askNow 149 = .ok (.iinc 5 1, 3) := by decide +kernel
theorem dX4_askNow_152 : decode cX4_askNow 152 = .ok (.goto (-137), 3) := by decide +kernel
theorem dX4_askNow_155 : decode cX4_askNow 155 = .ok (.iload_n 3, 1) := by decide +kernel
theorem dX4_askNow_156 : decode cX4_askNow 156 = .ok (.ireturn, 1) := by decide +kernel
set_option maxRecDepth 20000 in
theorem ggX4_ask_X4_within : GoodIn wsX4_ask wsX4_within := goodIn_r _ [5] (by decide +kernel) (by decide +kernel)
set_option maxRecDepth 20000 in
theorem gX4_ask_X4_within : GoodIn wsX4_ask (va_wsS RX4 56 yX4_within wsX4_within) := goodIn_app (goodIn_of _ (by decide +kernel)) ggX4_ask_X4_within
set_option maxRecDepth 20000 in
theorem ggX4_ask_X4_askNow : GoodIn wsX4_ask wsX4_askNow := goodIn_r _ [9, 10, 1, 11, 12, 13, 4, 14, 15, 16, 17, 18, 19, 20, 21, 22, 23, 24, 25, 26, 27, 28, 29, 30, 31, 32, 33, 34, 35, 36, 37, 38, 39, 40, 41, 42, 43, 44, 45, 46, 47, 48, 49, 50, 51, 52, 53, 54, 55, 56, 57, 58, 59, 60, 61, 62, 63, 64, 65, 66, 67, 68, 69, 70, 71, 72, 73, 74, 75, 76, 77, 78, 79, 80, 81, 82, 83, 84, 85, 86, 87, 88, 89, 90, 91, 92] (by decide +kernel) (by decide +kernel)
set_option maxRecDepth 20000 in
theorem gX4_ask_X4_askNow : GoodIn wsX4_ask (wsV RX4 189 RX4 yX4_askNow wsX4_askNow) := goodIn_app (goodIn_of _ (by decide +kernel)) ggX4_ask_X4_askNow
theorem dX4_ask_0 : decode cX4_ask 0 = .ok (.iload_n 1, 1) := by decide +kernel
theorem dX4_ask_1 : decode cX4_ask 1 = .ok (.iconst 0, 1) := by decide +kernel
theorem dX4_ask_2 : decode cX4_ask 2 = .ok (.iconst 4, 1) := by decide +kernel
theorem dX4_ask_3 : decode cX4_ask 3 = .ok (.invokestatic 56, 3) := by decide +kernel
theorem dX4_ask_6 : decode cX4_ask 6 = .ok (.ifCond .ne 6, 3) := by decide +kernel
theorem dX4_ask_9 : decode cX4_ask 9 = .ok (.bipush (-102), 2) := by decide +kernel
theorem dX4_ask_11 : decode cX4_ask 11 = .ok (.ireturn, 1) := by decide +kernel
theorem dX4_ask_12 : decode cX4_ask 12 = .ok (.aload_n 0, 1) := by decide +kernel
theorem dX4_ask_13 : decode cX4_ask 13 = .ok (.getfield 82, 3) := by decide +kernel
theorem dX4_ask_16 : decode cX4_ask 16 = .ok (.ifCond .ne 8, 3) := by decide +kernel
theorem dX4_ask_19 : decode cX4_ask 19 = .ok (.bipush (-103), 2) := by decide +kernel
theorem dX4_ask_21 : decode cX4_ask 21 = .ok (.goto 8, 3) := by decide +kernel
theorem dX4_ask_24 : decode cX4_ask 24 = .ok (.aload_n 0, 1) := by decide +kernel
theorem dX4_ask_25 : decode cX4_ask 25 = .ok (.iload_n 1, 1) := by decide +kernel
theorem dX4_ask_26 : decode cX4_ask 26 = .ok (.invokevirtual 189, 3) := by decide +kernel
theorem dX4_ask_29 : decode cX4_ask 29 = .ok (.ireturn, 1) := by decide +kernel
set_option maxRecDepth 20000 in
theorem ggX4_whoBehind_X4_pourOne : GoodIn wsX4_whoBehind wsX4_pourOne := goodIn_r _ [7, 2, 8, 9, 10, 6, 11, 12, 13, 14, 15, 16, 17, 18, 19, 20, 21, 22, 23, 24, 25, 26, 27, 28, 56, 57, 58, 59, 60, 61, 62, 63, 64, 65, 66, 67, 68, 69, 70, 71, 72, 73, 74, 75, 76, 77, 78, 79, 80, 81, 82, 83, 84, 85] (by decide +kernel) (by decide +kernel)
set_option maxRecDepth 20000 in
theorem gX4_whoBehind_X4_pourOne : GoodIn wsX4_whoBehind (wsV RX4 149 RX4 yX4_pourOne wsX4_pourOne) := goodIn_app (goodIn_of _ (by decide +kernel)) ggX4_whoBehind_X4_pourOne
set_option maxRecDepth 20000 in
theorem ggX4_whoBehind_X4_think : GoodIn wsX4_whoBehind wsX4_think := goodIn_r _ [15, 16, 17, 18, 6, 19, 20, 21, 22, 23, 24, 2, 56, 57, 58, 59, 60, 61, 62, 63, 64, 65, 66, 67, 68, 69, 70, 71, 72, 73, 74, 75, 76, 77, 78, 79, 80, 81, 82, 83, 84, 85] (by decide +kernel) (by decide +kernel)
set_option maxRecDepth 20000 in
theorem gX4_whoBehind_X4_think : GoodIn wsX4_whoBehind (wsV RX4 120 RX4 yX4_think wsX4_think) := goodIn_app (goodIn_of _ (by decide +kernel)) ggX4_whoBehind_X4_think
set_option maxRecDepth 20000 in
theorem ggX4_whoBehind_X4_whoMay : GoodIn wsX4_whoBehind wsX4_whoMay := goodIn_r _ [32, 33, 34, 35, 36, 37, 38, 6, 39, 40, 41, 42, 43, 20, 44, 45, 46, 47, 48, 25, 26, 27, 28, 49, 50, 51, 52, 53, 54, 55, 56, 57, 58, 59, 60, 61, 62, 63, 64, 65, 66, 67, 68, 69, 70, 71, 72, 73, 74, 75, 76, 77, 78, 79, 80, 81, 82, 83, 84, 85] (by decide +kernel) (by decide +kernel)
set_option maxRecDepth 20000 in
theorem gX4_whoBehind_X4_whoMay : GoodIn wsX4_whoBehind (wsV RX4 123 RX4 yX4_whoMay wsX4_whoMay) := goodIn_app (goodIn_of _ (by decide +kernel)) ggX4_whoBehind_X4_whoMay
theorem dX4_whoBehind_0 : decode cX4_whoBehind 0 = .ok (.aload_n 0, 1) := by decide +kernel
theorem dX4_whoBehind_1 : decode cX4_whoBehind 1 = .ok (.iload_n 2, 1) := by decide +kernel
theorem dX4_whoBehind_2 : decode cX4_whoBehind 2 = .ok (.iload_n 3, 1) := by decide +kernel
theorem dX4_whoBehind_3 : decode cX4_whoBehind 3 = .ok (.invokevirtual 149, 3) := by decide +kernel
theorem dX4_whoBehind_6 : decode cX4_whoBehind 6 = .ok (.aload_n 0, 1) := by decide +kernel
theorem dX4_whoBehind_7 : decode cX4_whoBehind 7 = .ok (.iload_n 1, 1) := by decide +kernel
theorem dX4_whoBehind_8 : decode cX4_whoBehind 8 = .ok (.invokevirtual 120, 3) := by decide +kernel
theorem dX4_whoBehind_11 : decode cX4_whoBehind 11 = .ok (.aload_n 0, 1) := by decide +kernel
theorem dX4_whoBehind_12 : decode cX4_whoBehind 12 = .ok (.invokevirtual 123, 3) := by decide +kernel
theorem dX4_whoBehind_15 : decode cX4_whoBehind 15 = .ok (.istore 4, 2) := by decide +kernel
theorem dX4_whoBehind_17 : decode cX4_whoBehind 17 = .ok (.aload_n 0, 1) := by decide +kernel
theorem dX4_whoBehind_18 : decode cX4_whoBehind 18 = .ok (.getfield 192, 3) := by decide +kernel
theorem dX4_whoBehind_21 : decode cX4_whoBehind 21 = .ok (.istore 5, 2) := by decide +kernel
theorem dX4_whoBehind_23 : decode cX4_whoBehind 23 = .ok (.aload_n 0, 1) := by decide +kernel
theorem dX4_whoBehind_24 : decode cX4_whoBehind 24 = .ok (.getfield 7, 3) := by decide +kernel
theorem dX4_whoBehind_27 : decode cX4_whoBehind 27 = .ok (.bipush 10, 2) := by decide +kernel
theorem dX4_whoBehind_29 : decode cX4_whoBehind 29 = .ok (.iload_n 3, 1) := by decide +kernel
theorem dX4_whoBehind_30 : decode cX4_whoBehind 30 = .ok (.imul, 1) := by decide +kernel
theorem dX4_whoBehind_31 : decode cX4_whoBehind 31 = .ok (.iload 5, 2) := by decide +kernel
theorem dX4_whoBehind_33 : decode cX4_whoBehind 33 = .ok (.iadd, 1) := by decide +kernel
theorem dX4_whoBehind_34 : decode cX4_whoBehind 34 = .ok (.dup2, 1) := by decide +kernel
theorem dX4_whoBehind_35 : decode cX4_whoBehind 35 = .ok (.iaload, 1) := by decide +kernel
theorem dX4_whoBehind_36 : decode cX4_whoBehind 36 = .ok (.iconst 1, 1) := by decide +kernel
theorem dX4_whoBehind_37 : decode cX4_whoBehind 37 = .ok (.isub, 1) := by decide +kernel
theorem dX4_whoBehind_38 : decode cX4_whoBehind 38 = .ok (.iastore, 1) := by decide +kernel
theorem dX4_whoBehind_39 : decode cX4_whoBehind 39 = .ok (.aload_n 0, 1) := by decide +kernel
theorem dX4_whoBehind_40 : decode cX4_whoBehind 40 = .ok (.getfield 7, 3) := by decide +kernel
theorem dX4_whoBehind_43 : decode cX4_whoBehind 43 = .ok (.bipush 10, 2) := by decide +kernel
theorem dX4_whoBehind_45 : decode cX4_whoBehind 45 = .ok (.iload_n 2, 1) := by decide +kernel
theorem dX4_whoBehind_46 : decode cX4_whoBehind 46 = .ok (.imul, 1) := by decide +kernel
theorem dX4_whoBehind_47 : decode cX4_whoBehind 47 = .ok (.iload 5, 2) := by decide +kernel
theorem dX4_whoBehind_49 : decode cX4_whoBehind 49 = .ok (.iadd, 1) := by decide +kernel
theorem dX4_whoBehind_50 : decode cX4_whoBehind 50 = .ok (.dup2, 1) := by decide +kernel
theorem dX4_whoBehind_51 : decode cX4_whoBehind 51 = .ok (.iaload, 1) := by decide +kernel
theorem dX4_whoBehind_52 : decode cX4_whoBehind 52 = .ok (.iconst 1, 1) := by decide +kernel
theorem dX4_whoBehind_53 : decode cX4_whoBehind 53 = .ok (.iadd, 1) := by decide +kernel
theorem dX4_whoBehind_54 : decode cX4_whoBehind 54 = .ok (.iastore, 1) := by decide +kernel
theorem dX4_whoBehind_55 : decode cX4_whoBehind 55 = .ok (.iload 4, 2) := by decide +kernel
theorem dX4_whoBehind_57 : decode cX4_whoBehind 57 = .ok (.ireturn, 1) := by decide +kernel
set_option maxRecDepth 20000 in
theorem ggX4_toppedNow_X4_isCask : GoodIn wsX4_toppedNow wsX4_isCask := goodIn_r _ [6, 7, 8, 9, 5, 10, 72, 73, 74, 75, 76, 77, 78, 79, 80, 81, 82, 83, 84, 85, 86, 87, 88, 89, 90, 91, 92, 93, 94, 95, 96, 97, 98, 99, 100, 101] (by decide +kernel) (by decide +kernel)
set_option maxRecDepth 20000 in
theorem gX4_toppedNow_X4_isCask : GoodIn wsX4_toppedNow (wsV RX4 126 RX4 yX4_isCask wsX4_isCask) := goodIn_app (goodIn_of _ (by decide +kernel)) ggX4_toppedNow_X4_isCask
set_option maxRecDepth 20000 in
theorem ggX4_toppedNow_X4_litresIn : GoodIn wsX4_toppedNow wsX4_litresIn := goodIn_r _ [14, 15, 16, 17, 5, 18, 19, 20, 21, 22, 23, 24, 25, 26, 27, 28, 29, 30, 31, 32, 72, 73, 74, 75, 76, 77, 78, 79, 80, 81, 82, 83, 84, 85, 86, 87, 88, 89, 90, 91, 92, 93, 94, 95, 96, 97, 98, 99, 100, 101] (by decide +kernel) (by decide +kernel)
set_option maxRecDepth 20000 in
theorem gX4_toppedNow_X4_litresIn : GoodIn wsX4_toppedNow (wsV RX4 146 RX4 yX4_litresIn wsX4_litresIn) := goodIn_app (goodIn_of _ (by decide +kernel)) ggX4_toppedNow_X4_litresIn
set_option maxRecDepth 20000 in
theorem ggX4_toppedNow_X4_latestIn : GoodIn wsX4_toppedNow wsX4_latestIn := goodIn_r _ [36, 15, 16, 17, 5, 18, 19, 20, 21, 22, 23, 24, 25, 26, 27, 28, 37, 38, 39, 40, 72, 73, 74, 75, 76, 77, 78, 79, 80, 81, 82, 83, 84, 85, 86, 87, 88, 89, 90, 91, 92, 93, 94, 95, 96, 97, 98, 99, 100, 101] (by decide +kernel) (by decide +kernel)
set_option maxRecDepth 20000 in
theorem gX4_toppedNow_X4_latestIn : GoodIn wsX4_toppedNow (wsV RX4 143 RX4 yX4_latestIn wsX4_latestIn) := goodIn_app (goodIn_of _ (by decide +kernel)) ggX4_toppedNow_X4_latestIn
set_option maxRecDepth 20000 in
theorem ggX4_toppedNow_X4_whoBehind : GoodIn wsX4_toppedNow wsX4_whoBehind := goodIn_r _ [44, 1, 28, 45, 46, 47, 5, 48, 33, 34, 35, 36, 15, 16, 17, 18, 19, 20, 21, 22, 23, 24, 25, 26, 27, 37, 38, 39, 40, 49, 50, 51, 52, 53, 54, 55, 56, 57, 58, 59, 60, 61, 62, 63, 64, 29, 30, 31, 32, 65, 66, 67, 68, 69, 70, 71, 72, 73, 74, 75, 76, 77, 78, 79, 80, 81, 82, 83, 84, 85, 86, 87, 88, 89, 90, 91, 92, 93, 94, 95, 96, 97, 98, 99, 100, 101] (by decide +kernel) (by decide +kernel)
set_option maxRecDepth 20000 in
theorem gX4_toppedNow_X4_whoBehind : GoodIn wsX4_toppedNow (wsV RX4 195 RX4 yX4_whoBehind wsX4_whoBehind) := goodIn_app (goodIn_of _ (by decide +kernel)) ggX4_toppedNow_X4_whoBehind
theorem dX4_toppedNow_0 : decode cX4_toppedNow 0 = .ok (.iconst 0, 1) := by decide +kernel
theorem dX4_toppedNow_1 : decode cX4_toppedNow 1 = .ok (.istore 4, 2) := by decide +kernel
theorem dX4_toppedNow_3 : decode cX4_toppedNow 3 = .ok (.iconst (-1), 1) := by decide +kernel
theorem dX4_toppedNow_4 : decode cX4_toppedNow 4 = .ok (.istore 5, 2) := by decide +kernel
theorem dX4_toppedNow_6 : decode cX4_toppedNow 6 = .ok (.bipush 24, 2) := by decide +kernel
theorem dX4_toppedNow_8 : decode cX4_toppedNow 8 = .ok (.istore 6, 2) := by decide +kernel
theorem dX4_toppedNow_10 : decode cX4_toppedNow 10 = .ok (.iload 6, 2) := by decide +kernel
theorem dX4_toppedNow_12 : decode cX4_toppedNow 12 = .ok (.ifCond .lt 146, 3) := by decide +kernel
theorem dX4_toppedNow_15 : decode cX4_toppedNow 15 = .ok (.iload 6, 2) := by decide +kernel
theorem dX4_toppedNow_17 : decode cX4_toppedNow 17 = .ok (.iconst 5, 1) := by decide +kernel
theorem dX4_toppedNow_18 : decode cX4_toppedNow 18 = .ok (.idiv, 1) := by decide +kernel
theorem dX4_toppedNow_19 : decode cX4_toppedNow 19 = .ok (.istore 7, 2) := by decide +kernel
theorem dX4_toppedNow_21 : decode cX4_toppedNow 21 = .ok (.iload 6, 2) := by decide +kernel
theorem dX4_toppedNow_23 : decode cX4_toppedNow 23 = .ok (.iconst 5, 1) := by decide +kernel
theorem dX4_toppedNow_24 : decode cX4_toppedNow 24 = .ok (.irem, 1) := by decide +kernel
theorem dX4_toppedNow_25 : decode cX4_toppedNow 25 = .ok (.istore 8, 2) := by decide +kernel
theorem dX4_toppedNow_27 : decode cX4_toppedNow 27 = .ok (.iload 7, 2) := by decide +kernel
theorem dX4_toppedNow_29 : decode cX4_toppedNow 29 = .ok (.iload 8, 2) := by decide +kernel
theorem dX4_toppedNow_31 : decode cX4_toppedNow 31 = .ok (.if_icmp .eq 45, 3) := by decide +kernel
theorem dX4_toppedNow_34 : decode cX4_toppedNow 34 = .ok (.aload_n 0, 1) := by decide +kernel
theorem dX4_toppedNow_35 : decode cX4_toppedNow 35 = .ok (.iload 7, 2) := by decide +kernel
theorem dX4_toppedNow_37 : decode cX4_toppedNow 37 = .ok (.invokevirtual 126, 3) := by decide +kernel
theorem dX4_toppedNow_40 : decode cX4_toppedNow 40 = .ok (.ifCond .eq 36, 3) := by decide +kernel
theorem dX4_toppedNow_43 : decode cX4_toppedNow 43 = .ok (.aload_n 0, 1) := by decide +kernel
theorem dX4_toppedNow_44 : decode cX4_toppedNow 44 = .ok (.iload 8, 2) := by decide +kernel
theorem dX4_toppedNow_46 : decode cX4_toppedNow 46 = .ok (.invokevirtual 126, 3) := by decide +kernel
theorem dX4_toppedNow_49 : decode cX4_toppedNow 49 = .ok (.ifCond .eq 27, 3) := by decide +kernel
theorem dX4_toppedNow_52 : decode cX4_toppedNow 52 = .ok (.aload_n 0, 1) := by decide +kernel
theorem dX4_toppedNow_53 : decode cX4_toppedNow 53 = .ok (.iload 7, 2) := by decide +kernel
theorem dX4_toppedNow_55 : decode cX4_toppedNow 55 = .ok (.invokevirtual 146, 3) := by decide +kernel
theorem dX4_toppedNow_58 : decode cX4_toppedNow 58 = .ok (.ifCond .le 18, 3) := by decide +kernel
theorem dX4_toppedNow_61 : decode cX4_toppedNow 61 = .ok (.aload_n 0, 1) := by decide +kernel
theorem dX4_toppedNow_62 : decode cX4_toppedNow 62 = .ok (.iload 8, 2) := by decide +kernel
theorem dX4_toppedNow_64 : decode cX4_toppedNow 64 = .ok (.invokevirtual 146, 3) := by decide +kernel
theorem dX4_toppedNow_67 : decode cX4_toppedNow 67 = .ok (.bipush 20, 2) := by decide +kernel
theorem dX4_toppedNow_69 : decode cX4_toppedNow 69 = .ok (.if_icmp .ge 7, 3) := by decide +kernel
theorem dX4_toppedNow_72 : decode cX4_toppedNow 72 = .ok (.iconst 1, 1) := by decide +kernel
theorem dX4_toppedNow_73 : decode cX4_toppedNow 73 = .ok (.goto 4, 3) := by decide +kernel
theorem dX4_toppedNow_76 : decode cX4_toppedNow 76 = .ok (.iconst 0, 1) := by decide +kernel
theorem dX4_toppedNow_77 : decode cX4_toppedNow 77 = .ok (.istore 9, 2) := by decide +kernel
theorem dX4_toppedNow_79 : decode cX4_toppedNow 79 = .ok (.aload_n 0, 1) := by decide +kernel
theorem dX4_toppedNow_80 : decode cX4_toppedNow 80 = .ok (.iload 9, 2) := by decide +kernel
theorem dX4_toppedNow_82 : decode cX4_toppedNow 82 = .ok (.ifCond .eq 12, 3) := by decide +kernel
theorem dX4_toppedNow_85 : decode cX4_toppedNow 85 = .ok (.aload_n 0, 1) := by decide +kernel
theorem dX4_toppedNow_86 : decode cX4_toppedNow 86 = .ok (.iload 7, 2) := by decide +kernel
theorem dX4_toppedNow_88 : decode cX4_toppedNow 88 = .ok (.invokevirtual 143, 3) := by decide +kernel
theorem dX4_toppedNow_91 : decode cX4_toppedNow 91 = .ok (.goto 4, 3) := by decide +kernel
theorem dX4_toppedNow_94 : decode cX4_toppedNow 94 = .ok (.iconst (-1), 1) := by decide +kernel
theorem dX4_toppedNow_95 : decode cX4_toppedNow 95 = .ok (.putfield 192, 3) := by decide +kernel
theorem dX4_toppedNow_98 : decode cX4_toppedNow 98 = .ok (.iload 9, 2) := by decide +kernel
theorem dX4_toppedNow_100 : decode cX4_toppedNow 100 = .ok (.ifCond .eq 20, 3) := by decide +kernel
theorem dX4_toppedNow_103 : decode cX4_toppedNow 103 = .ok (.aload_n 0, 1) := by decide +kernel
theorem dX4_toppedNow_104 : decode cX4_toppedNow 104 = .ok (.iload_n 1, 1) := by decide +kernel
theorem dX4_toppedNow_105 : decode cX4_toppedNow 105 = .ok (.iload 7, 2) := by decide +kernel
theorem dX4_toppedNow_107 : decode cX4_toppedNow 107 = .ok (.iload 8, 2) := by decide +kernel
theorem dX4_toppedNow_109 : decode cX4_toppedNow 109 = .ok (.invokevirtual 195, 3) := by decide +kernel
theorem dX4_toppedNow_112 : decode cX4_toppedNow 112 = .ok (.iload_n 2, 1) := by decide +kernel
theorem dX4_toppedNow_113 : decode cX4_toppedNow 113 = .ok (.if_icmp .ne 7, 3) := by decide +kernel
theorem dX4_toppedNow_116 : decode cX4_toppedNow 116 = .ok (.iconst 1, 1) := by decide +kernel
theorem dX4_toppedNow_117 : decode cX4_toppedNow 117 = .ok (.goto 4, 3) := by decide +kernel
theorem dX4_toppedNow_120 : decode cX4_toppedNow 120 = .ok (.iconst 0, 1) := by decide +kernel
theorem dX4_toppedNow_121 : decode cX4_toppedNow 121 = .ok (.istore 10, 2) := by decide +kernel
theorem dX4_toppedNow_123 : decode cX4_toppedNow 123 = .ok (.iload 4, 2) := by decide +kernel
theorem dX4_toppedNow_125 : decode cX4_toppedNow 125 = .ok (.iload 10, 2) := by decide +kernel
theorem dX4_toppedNow_127 : decode cX4_toppedNow 127 = .ok (.ifCond .eq 7, 3) := by decide +kernel
theorem dX4_toppedNow_130 : decode cX4_toppedNow 130 = .ok (.iconst 1, 1) := by decide +kernel
theorem dX4_toppedNow_131 : decode cX4_toppedNow 131 = .ok (.goto 4, 3) := by decide +kernel
theorem dX4_toppedNow_134 : decode cX4_toppedNow 134 = .ok (.iconst 0, 1) := by decide +kernel
theorem dX4_toppedNow_135 : decode cX4_toppedNow 135 = .ok (.iadd, 1) := by decide +kernel
theorem dX4_toppedNow_136 : decode cX4_toppedNow 136 = .ok (.istore 4, 2) := by decide +kernel
theorem dX4_toppedNow_138 : decode cX4_toppedNow 138 = .ok (.iload 10, 2) := by decide +kernel
theorem dX4_toppedNow_140 : decode cX4_toppedNow 140 = .ok (.ifCond .eq 8, 3) := by decide +kernel
theorem dX4_toppedNow_143 : decode cX4_toppedNow 143 = .ok (.iload 6, 2) := by decide +kernel
theorem dX4_toppedNow_145 : decode cX4_toppedNow 145 = .ok (.goto 5, 3) := by decide +kernel
theorem dX4_toppedNow_148 : decode cX4_toppedNow 148 = .ok (.iload 5, 2) := by decide +kernel
theorem dX4_toppedNow_150 : decode cX4_toppedNow 150 = .ok (.istore 5, 2) := by decide +kernel
theorem dX4_toppedNow_152 : decode cX4_toppedNow 152 = .ok (.iinc 6 (-1), 3) := by decide +kernel
theorem dX4_toppedNow_155 : decode cX4_toppedNow 155 = .ok (.goto (-145), 3) := by decide +kernel
theorem dX4_toppedNow_158 : decode cX4_toppedNow 158 = .ok (.iload_n 3, 1) := by decide +kernel
theorem dX4_toppedNow_159 : decode cX4_toppedNow 159 = .ok (.ifCond .ne 8, 3) := by decide +kernel
theorem dX4_toppedNow_162 : decode cX4_toppedNow 162 = .ok (.iload 4, 2) := by decide +kernel
theorem dX4_toppedNow_164 : decode cX4_toppedNow 164 = .ok (.goto 5, 3) := by decide +kernel
theorem dX4_toppedNow_167 : decode cX4_toppedNow 167 = .ok (.iload 5, 2) := by decide +kernel
theorem dX4_toppedNow_169 : decode cX4_toppedNow 169 = .ok (.ireturn, 1) := by decide +kernel
set_option maxRecDepth 20000 in
theorem ggX4_topped_X4_isCask : GoodIn wsX4_topped wsX4_isCask := goodIn_r _ [5, 6, 7, 8, 4, 9, 80, 81, 82, 83, 84, 85, 86, 87, 88, 89, 90, 91, 92, 93, 94, 95, 96, 97, 98, 99, 100, 101, 102, 103, 104, 105, 106, 107, 108, 109] (by decide +kernel) (by decide +kernel)
set_option maxRecDepth 20000 in
theorem gX4_topped_X4_isCask : GoodIn wsX4_topped (wsV RX4 126 RX4 yX4_isCask wsX4_isCask) := goodIn_app (goodIn_of _ (by decide +kernel)) ggX4_topped_X4_isCask
set_option maxRecDepth 20000 in
theorem ggX4_topped_X4_arePeople : GoodIn wsX4_topped wsX4_arePeople := goodIn_r _ [13, 14, 7, 8, 4, 9, 80, 81, 82, 83, 84, 85, 86, 87, 88, 89, 90, 91, 92, 93, 94, 95, 96, 97, 98, 99, 100, 101, 102, 103, 104, 105, 106, 107, 108, 109] (by decide +kernel) (by decide +kernel)
set_option maxRecDepth 20000 in
theorem gX4_topped_X4_arePeople : GoodIn wsX4_topped (wsV RX4 159 RX4 yX4_arePeople wsX4_arePeople) := goodIn_app (goodIn_of _ (by decide +kernel)) ggX4_topped_X4_arePeople
set_option maxRecDepth 20000 in
theorem ggX4_topped_X4_within : GoodIn wsX4_topped wsX4_within := goodIn_r _ [9] (by decide +kernel) (by decide +kernel)
set_option maxRecDepth 20000 in
theorem gX4_topped_X4_within : GoodIn wsX4_topped (va_wsS RX4 56 yX4_within wsX4_within) := goodIn_app (goodIn_of _ (by decide +kernel)) ggX4_topped_X4_within
set_option maxRecDepth 20000 in
theorem ggX4_topped_X4_toppedNow : GoodIn wsX4_topped wsX4_toppedNow := goodIn_r _ [18, 19, 1, 2, 3, 4, 5, 6, 7, 8, 9, 20, 21, 22, 23, 24, 25, 26, 27, 28, 29, 30, 31, 32, 33, 34, 35, 36, 37, 38, 39, 40, 41, 42, 43, 44, 45, 46, 47, 48, 49, 50, 51, 52, 53, 54, 55, 56, 57, 58, 59, 60, 61, 14, 62, 63, 64, 65, 66, 67, 68, 69, 70, 71, 72, 73, 74, 75, 76, 77, 78, 79, 80, 81, 82, 83, 84, 85, 86, 87, 88, 89, 90, 91, 92, 93, 94, 95, 96, 97, 98, 99, 100, 101, 102, 103, 104, 105, 106, 107, 108, 109] (by decide +kernel) (by decide +kernel)
set_option maxRecDepth 20000 in
theorem gX4_topped_X4_toppedNow : GoodIn wsX4_topped (wsV RX4 198 RX4 yX4_toppedNow wsX4_toppedNow) := goodIn_app (goodIn_of _ (by decide +kernel)) ggX4_topped_X4_toppedNow
theorem dX4_topped_0 : decode cX4_topped 0 = .ok (.aload_n 0, 1) := by decide +kernel
theorem dX4_topped_1 : decode cX4_topped 1 = .ok (.iload_n 1, 1) := by decide +kernel
theorem dX4_topped_2 : decode cX4_topped 2 = .ok (.invokevirtual 126, 3) := by decide +kernel
theorem dX4_topped_5 : decode cX4_topped 5 = .ok (.ifCond .ne 6, 3) := by decide +kernel
theorem dX4_topped_8 : decode cX4_topped 8 = .ok (.bipush (-101), 2) := by decide +kernel
theorem dX4_topped_10 : decode cX4_topped 10 = .ok (.ireturn, 1) := by decide +kernel
theorem dX4_topped_11 : decode cX4_topped 11 = .ok (.aload_n 0, 1) := by decide +kernel
theorem dX4_topped_12 : decode cX4_topped 12 = .ok (.iload_n 2, 1) := by decide +kernel
theorem dX4_topped_13 : decode cX4_topped 13 = .ok (.invokevirtual 159, 3) := by decide +kernel
theorem dX4_topped_16 : decode cX4_topped 16 = .ok (.ifCond .eq 22, 3) := by decide +kernel
theorem dX4_topped_19 : decode cX4_topped 19 = .ok (.iload_n 3, 1) := by decide +kernel
theorem dX4_topped_20 : decode cX4_topped 20 = .ok (.iconst 0, 1) := by decide +kernel
theorem dX4_topped_21 : decode cX4_topped 21 = .ok (.iconst 1, 1) := by decide +kernel
theorem dX4_topped_22 : decode cX4_topped 22 = .ok (.invokestatic 56, 3) := by decide +kernel
theorem dX4_topped_25 : decode cX4_topped 25 = .ok (.ifCond .eq 13, 3) := by decide +kernel
theorem dX4_topped_28 : decode cX4_topped 28 = .ok (.aload_n 0, 1) := by decide +kernel
theorem dX4_topped_29 : decode cX4_topped 29 = .ok (.iload_n 1, 1) := by decide +kernel
theorem dX4_topped_30 : decode cX4_topped 30 = .ok (.iload_n 2, 1) := by decide +kernel
theorem dX4_topped_31 : decode cX4_topped 31 = .ok (.iload_n 3, 1) := by decide +kernel
theorem dX4_topped_32 : decode cX4_topped 32 = .ok (.invokevirtual 198, 3) := by decide +kernel
theorem dX4_topped_35 : decode cX4_topped 35 = .ok (.goto 5, 3) := by decide +kernel
theorem dX4_topped_38 : decode cX4_topped 38 = .ok (.bipush (-102), 2) := by decide +kernel
theorem dX4_topped_40 : decode cX4_topped 40 = .ok (.ireturn, 1) := by decide +kernel
theorem dX4_draw_0 : decode cX4_draw 0 = .ok (.aload_n 0, 1) := by decide +kernel
theorem dX4_draw_1 : decode cX4_draw 1 = .ok (.ldc2_w 201, 3) := by decide +kernel
theorem dX4_draw_4 : decode cX4_draw 4 = .ok (.aload_n 0, 1) := by decide +kernel
theorem dX4_draw_5 : decode cX4_draw 5 = .ok (.getfield 203, 3) := by decide +kernel
theorem dX4_draw_8 : decode cX4_draw 8 = .ok (.lmul, 1) := by decide +kernel
theorem dX4_draw_9 : decode cX4_draw 9 = .ok (.ldc2_w 207, 3) := by decide +kernel
theorem dX4_draw_12 : decode cX4_draw 12 = .ok (.ladd, 1) := by decide +kernel
theorem dX4_draw_13 : decode cX4_draw 13 = .ok (.ldc2_w 209, 3) := by decide +kernel
theorem dX4_draw_16 : decode cX4_draw 16 = .ok (.land, 1) := by decide +kernel
theorem dX4_draw_17 : decode cX4_draw 17 = .ok (.putfield 203, 3) := by decide +kernel
theorem dX4_draw_20 : decode cX4_draw 20 = .ok (.aload_n 0, 1) := by decide +kernel
theorem dX4_draw_21 : decode cX4_draw 21 = .ok (.getfield 203, 3) := by decide +kernel
theorem dX4_draw_24 : decode cX4_draw 24 = .ok (.ldc2_w 211, 3) := by decide +kernel
theorem dX4_draw_27 : decode cX4_draw 27 = .ok (.ldiv, 1) := by decide +kernel
theorem dX4_draw_28 : decode cX4_draw 28 = .ok (.iload_n 1, 1) := by decide +kernel
theorem dX4_draw_29 : decode cX4_draw 29 = .ok (.i2l, 1) := by decide +kernel
theorem dX4_draw_30 : decode cX4_draw 30 = .ok (.lrem, 1) := by decide +kernel
theorem dX4_draw_31 : decode cX4_draw 31 = .ok (.l2i, 1) := by decide +kernel
theorem dX4_draw_32 : decode cX4_draw 32 = .ok (.ireturn, 1) := by decide +kernel
set_option maxRecDepth 20000 in
theorem ggX4_litresAll_X4_litresIn : GoodIn wsX4_litresAll wsX4_litresIn := goodIn_r _ [6, 7, 8, 9, 5, 10, 11, 12, 13, 14, 15, 16, 17, 18, 19, 20, 21, 22, 23, 24, 25, 26, 27, 28, 29, 30, 31, 32, 33, 34, 35, 36, 37, 38, 39, 40, 41, 42, 43, 44, 45, 46, 47, 48, 49, 50, 51, 52, 53, 54] (by decide +kernel) (by decide +kernel)
set_option maxRecDepth 20000 in
theorem gX4_litresAll_X4_litresIn : GoodIn wsX4_litresAll (wsV RX4 146 RX4 yX4_litresIn wsX4_litresIn) := goodIn_app (goodIn_of _ (by decide +kernel)) ggX4_litresAll_X4_litresIn
theorem dX4_litresAll_0 : decode cX4_litresAll 0 = .ok (.iconst 0, 1) := by decide +kernel
theorem dX4_litresAll_1 : decode cX4_litresAll 1 = .ok (.istore_n 1, 1) := by decide +kernel
theorem dX4_litresAll_2 : decode cX4_litresAll 2 = .ok (.iconst 0, 1) := by decide +kernel
theorem dX4_litresAll_3 : decode cX4_litresAll 3 = .ok (.istore_n 2, 1) := by decide +kernel
theorem dX4_litresAll_4 : decode cX4_litresAll 4 = .ok (.iload_n 2, 1) := by decide +kernel
theorem dX4_litresAll_5 : decode cX4_litresAll 5 = .ok (.aload_n 0, 1) := by decide +kernel
theorem dX4_litresAll_6 : decode cX4_litresAll 6 = .ok (.getfield 82, 3) := by decide +kernel
theorem dX4_litresAll_9 : decode cX4_litresAll 9 = .ok (.if_icmp .ge 17, 3) := by decide +kernel
theorem dX4_litresAll_12 : decode cX4_litresAll 12 = .ok (.iload_n 1, 1) := by decide +kernel
theorem dX4_litresAll_13 : decode cX4_litresAll 13 = .ok (.aload_n 0, 1) := by decide +kernel
theorem dX4_litresAll_14 : decode cX4_litresAll 14 = .ok (.iload_n 2, 1) := by decide +kernel
theorem dX4_litresAll_15 : decode cX4_litresAll 15 = .ok (.invokevirtual 146, 3) := by decide +kernel
theorem dX4_litresAll_18 : decode cX4_litresAll 18 = .ok (.iadd, 1) := by decide +kernel
theorem dX4_litresAll_19 : decode cX4_litresAll 19 = .ok (.istore_n 1, 1) := by decide +kernel
theorem dX4_litresAll_20 : decode cX4_litresAll 20 = .ok (.iinc 2 1, 3) := by decide +kernel
theorem dX4_litresAll_23 : decode cX4_litresAll 23 = .ok (.goto (-19), 3) := by decide +kernel
theorem dX4_litresAll_26 : decode cX4_litresAll 26 = .ok (.iload_n 1, 1) := by decide +kernel
theorem dX4_litresAll_27 : decode cX4_litresAll 27 = .ok (.ireturn, 1) := by decide +kernel
set_option maxRecDepth 20000 in
theorem ggX4_feastsNow_X4_draw : GoodIn wsX4_feastsNow wsX4_draw := goodIn_r _ [12, 13, 3, 14, 15, 16, 66, 67, 68, 69, 70, 71, 72, 73, 74, 75, 76, 77, 78, 79, 80, 81, 82, 83, 84, 85, 86, 87, 88, 89, 90, 91, 92, 93, 94, 95] (by decide +kernel) (by decide +kernel)
set_option maxRecDepth 20000 in
theorem gX4_feastsNow_X4_draw : GoodIn wsX4_feastsNow (wsV RX4 213 RX4 yX4_draw wsX4_draw) := goodIn_app (goodIn_of _ (by decide +kernel)) ggX4_feastsNow_X4_draw
set_option maxRecDepth 20000 in
theorem ggX4_feastsNow_X4_latestIn : GoodIn wsX4_feastsNow wsX4_latestIn := goodIn_r _ [20, 21, 22, 23, 11, 24, 25, 26, 27, 28, 29, 30, 31, 32, 33, 2, 34, 35, 36, 37, 66, 67, 68, 69, 70, 71, 72, 73, 74, 75, 76, 77, 78, 79, 80, 81, 82, 83, 84, 85, 86, 87, 88, 89, 90, 91, 92, 93, 94, 95] (by decide +kernel) (by decide +kernel)
set_option maxRecDepth 20000 in
theorem gX4_feastsNow_X4_latestIn : GoodIn wsX4_feastsNow (wsV RX4 143 RX4 yX4_latestIn wsX4_latestIn) := goodIn_app (goodIn_of _ (by decide +kernel)) ggX4_feastsNow_X4_latestIn
set_option maxRecDepth 20000 in
theorem ggX4_feastsNow_X4_mayThought : GoodIn wsX4_feastsNow wsX4_mayThought := goodIn_r _ [41, 42, 43, 44, 11, 45, 29, 46, 47, 48, 49, 50, 34, 35, 36, 37, 51, 52, 53, 54, 55, 56, 57, 66, 67, 68, 69, 70, 71, 72, 73, 74, 75, 76, 77, 78, 79, 80, 81, 82, 83, 84, 85, 86, 87, 88, 89, 90, 91, 92, 93, 94, 95] (by decide +kernel) (by decide +kernel)
set_option maxRecDepth 20000 in
theorem gX4_feastsNow_X4_mayThought : GoodIn wsX4_feastsNow (wsV RX4 117 RX4 yX4_mayThought wsX4_mayThought) := goodIn_app (goodIn_of _ (by decide +kernel)) ggX4_feastsNow_X4_mayThought
set_option maxRecDepth 20000 in
theorem ggX4_feastsNow_X4_litresAll : GoodIn wsX4_feastsNow wsX4_litresAll := goodIn_r _ [61, 5, 62, 63, 64, 11, 65, 21, 22, 23, 24, 25, 26, 27, 28, 29, 30, 31, 32, 33, 2, 47, 48, 49, 50, 66, 67, 68, 69, 70, 71, 72, 73, 74, 75, 76, 77, 78, 79, 80, 81, 82, 83, 84, 85, 86, 87, 88, 89, 90, 91, 92, 93, 94, 95] (by decide +kernel) (by decide +kernel)
set_option maxRecDepth 20000 in
theorem gX4_feastsNow_X4_litresAll : GoodIn wsX4_feastsNow (wsV RX4 216 RX4 yX4_litresAll wsX4_litresAll) := goodIn_app (goodIn_of _ (by decide +kernel)) ggX4_feastsNow_X4_litresAll
theorem dX4_feastsNow_0 : decode cX4_feastsNow 0 = .ok (.iconst 0, 1) := by decide +kernel
theorem dX4_feastsNow_1 : decode cX4_feastsNow 1 = .ok (.istore 4, 2) := by decide +kernel
theorem dX4_feastsNow_3 : decode cX4_feastsNow 3 = .ok (.iload 4, 2) := by decide +kernel
theorem dX4_feastsNow_5 : decode cX4_feastsNow 5 = .ok (.bipush 50, 2) := by decide +kernel
theorem dX4_feastsNow_7 : decode cX4_feastsNow 7 = .ok (.if_icmp .ge 23, 3) := by decide +kernel
theorem dX4_feastsNow_10 : decode cX4_feastsNow 10 = .ok (.aload_n 0, 1) := by decide +kernel
theorem dX4_feastsNow_11 : decode cX4_feastsNow 11 = .ok (.getfield 41, 3) := by decide +kernel
theorem dX4_feastsNow_14 : decode cX4_feastsNow 14 = .ok (.iload 4, 2) := by decide +kernel
theorem dX4_feastsNow_16 : decode cX4_feastsNow 16 = .ok (.aload_n 0, 1) := by decide +kernel
theorem dX4_feastsNow_17 : decode cX4_feastsNow 17 = .ok (.getfield 7, 3) := by decide +kernel
theorem dX4_feastsNow_20 : decode cX4_feastsNow 20 = .ok (.iload 4, 2) := by decide +kernel
theorem dX4_feastsNow_22 : decode cX4_feastsNow 22 = .ok (.iaload, 1) := by decide +kernel
theorem dX4_feastsNow_23 : decode cX4_feastsNow 23 = .ok (.iastore, 1) := by decide +kernel
theorem dX4_feastsNow_24 : decode cX4_feastsNow 24 = .ok (.iinc 4 1, 3) := by decide +kernel
theorem dX4_feastsNow_27 : decode cX4_feastsNow 27 = .ok (.goto (-24), 3) := by decide +kernel
theorem dX4_feastsNow_30 : decode cX4_feastsNow 30 = .ok (.aload_n 0, 1) := by decide +kernel
theorem dX4_feastsNow_31 : decode cX4_feastsNow 31 = .ok (.iload_n 2, 1) := by decide +kernel
theorem dX4_feastsNow_32 : decode cX4_feastsNow 32 = .ok (.i2l, 1) := by decide +kernel
theorem dX4_feastsNow_33 : decode cX4_feastsNow 33 = .ok (.putfield 203, 3) := by decide +kernel
theorem dX4_feastsNow_36 : decode cX4_feastsNow 36 = .ok (.iconst 0, 1) := by decide +kernel
theorem dX4_feastsNow_37 : decode cX4_feastsNow 37 = .ok (.istore 4, 2) := by decide +kernel
theorem dX4_feastsNow_39 : decode cX4_feastsNow 39 = .ok (.iconst 0, 1) := by decide +kernel
theorem dX4_feastsNow_40 : decode cX4_feastsNow 40 = .ok (.istore 5, 2) := by decide +kernel
theorem dX4_feastsNow_42 : decode cX4_feastsNow 42 = .ok (.iload 5, 2) := by decide +kernel
theorem dX4_feastsNow_44 : decode cX4_feastsNow 44 = .ok (.iload_n 1, 1) := by decide +kernel
theorem dX4_feastsNow_45 : decode cX4_feastsNow 45 = .ok (.if_icmp .ge 91, 3) := by decide +kernel
theorem dX4_feastsNow_48 : decode cX4_feastsNow 48 = .ok (.aload_n 0, 1) := by decide +kernel
theorem dX4_feastsNow_49 : decode cX4_feastsNow 49 = .ok (.aload_n 0, 1) := by decide +kernel
theorem dX4_feastsNow_50 : decode cX4_feastsNow 50 = .ok (.getfield 88, 3) := by decide +kernel
theorem dX4_feastsNow_53 : decode cX4_feastsNow 53 = .ok (.invokevirtual 213, 3) := by decide +kernel
theorem dX4_feastsNow_56 : decode cX4_feastsNow 56 = .ok (.istore 6, 2) := by decide +kernel
theorem dX4_feastsNow_58 : decode cX4_feastsNow 58 = .ok (.aload_n 0, 1) := by decide +kernel
theorem dX4_feastsNow_59 : decode cX4_feastsNow 59 = .ok (.aload_n 0, 1) := by decide +kernel
theorem dX4_feastsNow_60 : decode cX4_feastsNow 60 = .ok (.getfield 82, 3) := by decide +kernel
theorem dX4_feastsNow_63 : decode cX4_feastsNow 63 = .ok (.invokevirtual 213, 3) := by decide +kernel
theorem dX4_feastsNow_66 : decode cX4_feastsNow 66 = .ok (.istore 7, 2) := by decide +kernel
theorem dX4_feastsNow_68 : decode cX4_feastsNow 68 = .ok (.aload_n 0, 1) := by decide +kernel
theorem dX4_feastsNow_69 : decode cX4_feastsNow 69 = .ok (.iload 7, 2) := by decide +kernel
theorem dX4_feastsNow_71 : decode cX4_feastsNow 71 = .ok (.invokevirtual 143, 3) := by decide +kernel
theorem dX4_feastsNow_74 : decode cX4_feastsNow 74 = .ok (.istore 8, 2) := by decide +kernel
theorem dX4_feastsNow_76 : decode cX4_feastsNow 76 = .ok (.iload 8, 2) := by decide +kernel
theorem dX4_feastsNow_78 : decode cX4_feastsNow 78 = .ok (.iconst (-1), 1) := by decide +kernel
theorem dX4_feastsNow_79 : decode cX4_feastsNow 79 = .ok (.if_icmp .eq 51, 3) := by decide +kernel
theorem dX4_feastsNow_82 : decode cX4_feastsNow 82 = .ok (.iload 4, 2) := by decide +kernel
theorem dX4_feastsNow_84 : decode cX4_feastsNow 84 = .ok (.aload_n 0, 1) := by decide +kernel
theorem dX4_feastsNow_85 : decode cX4_feastsNow 85 = .ok (.aload_n 0, 1) := by decide +kernel
