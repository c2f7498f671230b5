theorem dX0_init_0 : decode cX0_init 0 = .ok (.aload_n 0, 1) := by decide +kernel
theorem dX0_init_1 : decode cX0_init 1 = .ok (.invokespecial 3, 3) := by decide +kernel
theorem dX0_init_4 : decode cX0_init 4 = .ok (.aload_n 0, 1) := by decide +kernel
theorem dX0_init_5 : decode cX0_init 5 = .ok (.bipush 10, 2) := by decide +kernel
theorem dX0_init_7 : decode cX0_init 7 = .ok (.newarray .int, 2) := by decide +kernel
theorem dX0_init_9 : decode cX0_init 9 = .ok (.putfield 9, 3) := by decide +kernel
theorem dX0_init_12 : decode cX0_init 12 = .ok (.return_, 1) := by decide +kernel
theorem dX0_drain_0 : decode cX0_drain 0 = .ok (.iconst 0, 1) := by decide +kernel
theorem dX0_drain_1 : decode cX0_drain 1 = .ok (.istore_n 1, 1) := by decide +kernel
theorem dX0_drain_2 : decode cX0_drain 2 = .ok (.iload_n 1, 1) := by decide +kernel
theorem dX0_drain_3 : decode cX0_drain 3 = .ok (.bipush 10, 2) := by decide +kernel
theorem dX0_drain_5 : decode cX0_drain 5 = .ok (.if_icmp .ge 16, 3) := by decide +kernel
theorem dX0_drain_8 : decode cX0_drain 8 = .ok (.aload_n 0, 1) := by decide +kernel
theorem dX0_drain_9 : decode cX0_drain 9 = .ok (.getfield 9, 3) := by decide +kernel
theorem dX0_drain_12 : decode cX0_drain 12 = .ok (.iload_n 1, 1) := by decide +kernel
theorem dX0_drain_13 : decode cX0_drain 13 = .ok (.iconst 0, 1) := by decide +kernel
theorem dX0_drain_14 : decode cX0_drain 14 = .ok (.iastore, 1) := by decide +kernel
theorem dX0_drain_15 : decode cX0_drain 15 = .ok (.iinc 1 1, 3) := by decide +kernel
theorem dX0_drain_18 : decode cX0_drain 18 = .ok (.goto (-16), 3) := by decide +kernel
theorem dX0_drain_21 : decode cX0_drain 21 = .ok (.aload_n 0, 1) := by decide +kernel
theorem dX0_drain_22 : decode cX0_drain 22 = .ok (.iconst 0, 1) := by decide +kernel
theorem dX0_drain_23 : decode cX0_drain 23 = .ok (.putfield 15, 3) := by decide +kernel
theorem dX0_drain_26 : decode cX0_drain 26 = .ok (.return_, 1) := by decide +kernel
theorem dX0_put_0 : decode cX0_put 0 = .ok (.iload_n 1, 1) := by decide +kernel
theorem dX0_put_1 : decode cX0_put 1 = .ok (.ifCond .lt 29, 3) := by decide +kernel
theorem dX0_put_4 : decode cX0_put 4 = .ok (.iload_n 1, 1) := by decide +kernel
theorem dX0_put_5 : decode cX0_put 5 = .ok (.bipush 10, 2) := by decide +kernel
theorem dX0_put_7 : decode cX0_put 7 = .ok (.if_icmp .ge 23, 3) := by decide +kernel
theorem dX0_put_10 : decode cX0_put 10 = .ok (.aload_n 0, 1) := by decide +kernel
theorem dX0_put_11 : decode cX0_put 11 = .ok (.getfield 9, 3) := by decide +kernel
theorem dX0_put_14 : decode cX0_put 14 = .ok (.iload_n 1, 1) := by decide +kernel
theorem dX0_put_15 : decode cX0_put 15 = .ok (.dup2, 1) := by decide +kernel
theorem dX0_put_16 : decode cX0_put 16 = .ok (.iaload, 1) := by decide +kernel
theorem dX0_put_17 : decode cX0_put 17 = .ok (.iload_n 2, 1) := by decide +kernel
theorem dX0_put_18 : decode cX0_put 18 = .ok (.iadd, 1) := by decide +kernel
theorem dX0_put_19 : decode cX0_put 19 = .ok (.iastore, 1) := by decide +kernel
theorem dX0_put_20 : decode cX0_put 20 = .ok (.aload_n 0, 1) := by decide +kernel
theorem dX0_put_21 : decode cX0_put 21 = .ok (.dup, 1) := by decide +kernel
theorem dX0_put_22 : decode cX0_put 22 = .ok (.getfield 15, 3) := by decide +kernel
theorem dX0_put_25 : decode cX0_put 25 = .ok (.iload_n 2, 1) := by decide +kernel
theorem dX0_put_26 : decode cX0_put 26 = .ok (.iadd, 1) := by decide +kernel
theorem dX0_put_27 : decode cX0_put 27 = .ok (.putfield 15, 3) := by decide +kernel
theorem dX0_put_30 : decode cX0_put 30 = .ok (.return_, 1) := by decide +kernel
set_option maxRecDepth 20000 in
theorem ggX0_putAllOf_X0_put : GoodIn wsX0_putAllOf wsX0_put := goodIn_r _ [6, 1, 7, 8, 9] (by decide +kernel) (by decide +kernel)
set_option maxRecDepth 20000 in
theorem gX0_putAllOf_X0_put : GoodIn wsX0_putAllOf (wsV RX0 19 RX0 yX0_put wsX0_put) := goodIn_app (goodIn_of _ (by decide +kernel)) ggX0_putAllOf_X0_put
theorem dX0_putAllOf_0 : decode cX0_putAllOf 0 = .ok (.iconst 0, 1) := by decide +kernel
theorem dX0_putAllOf_1 : decode cX0_putAllOf 1 = .ok (.istore_n 2, 1) := by decide +kernel
theorem dX0_putAllOf_2 : decode cX0_putAllOf 2 = .ok (.iload_n 2, 1) := by decide +kernel
theorem dX0_putAllOf_3 : decode cX0_putAllOf 3 = .ok (.bipush 10, 2) := by decide +kernel
theorem dX0_putAllOf_5 : decode cX0_putAllOf 5 = .ok (.if_icmp .ge 20, 3) := by decide +kernel
theorem dX0_putAllOf_8 : decode cX0_putAllOf 8 = .ok (.aload_n 0, 1) := by decide +kernel
theorem dX0_putAllOf_9 : decode cX0_putAllOf 9 = .ok (.iload_n 2, 1) := by decide +kernel
theorem dX0_putAllOf_10 : decode cX0_putAllOf 10 = .ok (.aload_n 1, 1) := by decide +kernel
theorem dX0_putAllOf_11 : decode cX0_putAllOf 11 = .ok (.getfield 9, 3) := by decide +kernel
theorem dX0_putAllOf_14 : decode cX0_putAllOf 14 = .ok (.iload_n 2, 1) := by decide +kernel
theorem dX0_putAllOf_15 : decode cX0_putAllOf 15 = .ok (.iaload, 1) := by decide +kernel
theorem dX0_putAllOf_16 : decode cX0_putAllOf 16 = .ok (.invokevirtual 19, 3) := by decide +kernel
theorem dX0_putAllOf_19 : decode cX0_putAllOf 19 = .ok (.iinc 2 1, 3) := by decide +kernel
theorem dX0_putAllOf_22 : decode cX0_putAllOf 22 = .ok (.goto (-20), 3) := by decide +kernel
theorem dX0_putAllOf_25 : decode cX0_putAllOf 25 = .ok (.return_, 1) := by decide +kernel
set_option maxRecDepth 20000 in
theorem ggX0_become_X0_drain : GoodIn wsX0_become wsX0_drain := goodIn_r _ [5, 6, 7, 16, 17] (by decide +kernel) (by decide +kernel)
set_option maxRecDepth 20000 in
theorem gX0_become_X0_drain : GoodIn wsX0_become (wsV RX0 23 RX0 yX0_drain wsX0_drain) := goodIn_app (goodIn_of _ (by decide +kernel)) ggX0_become_X0_drain
set_option maxRecDepth 20000 in
theorem ggX0_become_X0_putAllOf : GoodIn wsX0_become wsX0_putAllOf := goodIn_r _ [11, 6, 12, 13, 14, 4, 15, 7, 16, 17] (by decide +kernel) (by decide +kernel)
set_option maxRecDepth 20000 in
theorem gX0_become_X0_putAllOf : GoodIn wsX0_become (wsV RX0 26 RX0 yX0_putAllOf wsX0_putAllOf) := goodIn_app (goodIn_of _ (by decide +kernel)) ggX0_become_X0_putAllOf
theorem dX0_become_0 : decode cX0_become 0 = .ok (.aload_n 0, 1) := by decide +kernel
theorem dX0_become_1 : decode cX0_become 1 = .ok (.invokevirtual 23, 3) := by decide +kernel
theorem dX0_become_4 : decode cX0_become 4 = .ok (.aload_n 0, 1) := by decide +kernel
theorem dX0_become_5 : decode cX0_become 5 = .ok (.aload_n 1, 1) := by decide +kernel
theorem dX0_become_6 : decode cX0_become 6 = .ok (.invokevirtual 26, 3) := by decide +kernel
theorem dX0_become_9 : decode cX0_become 9 = .ok (.return_, 1) := by decide +kernel
theorem dX0_room_0 : decode cX0_room 0 = .ok (.bipush 20, 2) := by decide +kernel
theorem dX0_room_2 : decode cX0_room 2 = .ok (.aload_n 0, 1) := by decide +kernel
theorem dX0_room_3 : decode cX0_room 3 = .ok (.getfield 15, 3) := by decide +kernel
theorem dX0_room_6 : decode cX0_room 6 = .ok (.isub, 1) := by decide +kernel
theorem dX0_room_7 : decode cX0_room 7 = .ok (.ireturn, 1) := by decide +kernel
set_option maxRecDepth 20000 in
theorem ggX0_takeLatest_X0_latestYear : GoodIn wsX0_takeLatest wsX0_latestYear := goodIn_r _ [5, 6, 12, 13] (by decide +kernel) (by decide +kernel)
set_option maxRecDepth 20000 in
theorem gX0_takeLatest_X0_latestYear : GoodIn wsX0_takeLatest (wsV RX0 30 RX0 yX0_latestYear wsX0_latestYear) := goodIn_app (goodIn_of _ (by decide +kernel)) ggX0_takeLatest_X0_latestYear
set_option maxRecDepth 20000 in
theorem ggX0_takeLatest_X0_put : GoodIn wsX0_takeLatest wsX0_put := goodIn_r _ [10, 6, 11, 12, 13] (by decide +kernel) (by decide +kernel)
set_option maxRecDepth 20000 in
theorem gX0_takeLatest_X0_put : GoodIn wsX0_takeLatest (wsV RX0 19 RX0 yX0_put wsX0_put) := goodIn_app (goodIn_of _ (by decide +kernel)) ggX0_takeLatest_X0_put
theorem dX0_takeLatest_0 : decode cX0_takeLatest 0 = .ok (.aload_n 0, 1) := by decide +kernel
theorem dX0_takeLatest_1 : decode cX0_takeLatest 1 = .ok (.invokevirtual 30, 3) := by decide +kernel
theorem dX0_takeLatest_4 : decode cX0_takeLatest 4 = .ok (.istore_n 1, 1) := by decide +kernel
theorem dX0_takeLatest_5 : decode cX0_takeLatest 5 = .ok (.aload_n 0, 1) := by decide +kernel
theorem dX0_takeLatest_6 : decode cX0_takeLatest 6 = .ok (.iload_n 1, 1) := by decide +kernel
theorem dX0_takeLatest_7 : decode cX0_takeLatest 7 = .ok (.iconst (-1), 1) := by decide +kernel
theorem dX0_takeLatest_8 : decode cX0_takeLatest 8 = .ok (.invokevirtual 19, 3) := by decide +kernel
theorem dX0_takeLatest_11 : decode cX0_takeLatest 11 = .ok (.iload_n 1, 1) := by decide +kernel
theorem dX0_takeLatest_12 : decode cX0_takeLatest 12 = .ok (.ireturn, 1) := by decide +kernel
theorem dX0_latestYear_0 : decode cX0_latestYear 0 = .ok (.bipush 9, 2) := by decide +kernel
theorem dX0_latestYear_2 : decode cX0_latestYear 2 = .ok (.istore_n 1, 1) := by decide +kernel
theorem dX0_latestYear_3 : decode cX0_latestYear 3 = .ok (.iload_n 1, 1) := by decide +kernel
theorem dX0_latestYear_4 : decode cX0_latestYear 4 = .ok (.ifCond .lt 20, 3) := by decide +kernel
theorem dX0_latestYear_7 : decode cX0_latestYear 7 = .ok (.aload_n 0, 1) := by decide +kernel
theorem dX0_latestYear_8 : decode cX0_latestYear 8 = .ok (.getfield 9, 3) := by decide +kernel
theorem dX0_latestYear_11 : decode cX0_latestYear 11 = .ok (.iload_n 1, 1) := by decide +kernel
theorem dX0_latestYear_12 : decode cX0_latestYear 12 = .ok (.iaload, 1) := by decide +kernel
theorem dX0_latestYear_13 : decode cX0_latestYear 13 = .ok (.ifCond .le 5, 3) := by decide +kernel
theorem dX0_latestYear_16 : decode cX0_latestYear 16 = .ok (.iload_n 1, 1) := by decide +kernel
theorem dX0_latestYear_17 : decode cX0_latestYear 17 = .ok (.ireturn, 1) := by decide +kernel
theorem dX0_latestYear_18 : decode cX0_latestYear 18 = .ok (.iinc 1 (-1), 3) := by decide +kernel
theorem dX0_latestYear_21 : decode cX0_latestYear 21 = .ok (.goto (-18), 3) := by decide +kernel
theorem dX0_latestYear_24 : decode cX0_latestYear 24 = .ok (.iconst (-1), 1) := by decide +kernel
theorem dX0_latestYear_25 : decode cX0_latestYear 25 = .ok (.ireturn, 1) := by decide +kernel
theorem dX0_yearBits_0 : decode cX0_yearBits 0 = .ok (.iconst 0, 1) := by decide +kernel
theorem dX0_yearBits_1 : decode cX0_yearBits 1 = .ok (.istore_n 1, 1) := by decide +kernel
theorem dX0_yearBits_2 : decode cX0_yearBits 2 = .ok (.iconst 0, 1) := by decide +kernel
theorem dX0_yearBits_3 : decode cX0_yearBits 3 = .ok (.istore_n 2, 1) := by decide +kernel
theorem dX0_yearBits_4 : decode cX0_yearBits 4 = .ok (.iload_n 2, 1) := by decide +kernel
theorem dX0_yearBits_5 : decode cX0_yearBits 5 = .ok (.bipush 10, 2) := by decide +kernel
theorem dX0_yearBits_7 : decode cX0_yearBits 7 = .ok (.if_icmp .ge 24, 3) := by decide +kernel
theorem dX0_yearBits_10 : decode cX0_yearBits 10 = .ok (.aload_n 0, 1) := by decide +kernel
theorem dX0_yearBits_11 : decode cX0_yearBits 11 = .ok (.getfield 9, 3) := by decide +kernel
theorem dX0_yearBits_14 : decode cX0_yearBits 14 = .ok (.iload_n 2, 1) := by decide +kernel
theorem dX0_yearBits_15 : decode cX0_yearBits 15 = .ok (.iaload, 1) := by decide +kernel
theorem dX0_yearBits_16 : decode cX0_yearBits 16 = .ok (.ifCond .le 9, 3) := by decide +kernel
theorem dX0_yearBits_19 : decode cX0_yearBits 19 = .ok (.iload_n 1, 1) := by decide +kernel
theorem dX0_yearBits_20 : decode cX0_yearBits 20 = .ok (.iconst 1, 1) := by decide +kernel
theorem dX0_yearBits_21 : decode cX0_yearBits 21 = .ok (.iload_n 2, 1) := by decide +kernel
theorem dX0_yearBits_22 : decode cX0_yearBits 22 = .ok (.ishl, 1) := by decide +kernel
theorem dX0_yearBits_23 : decode cX0_yearBits 23 = .ok (.ior, 1) := by decide +kernel
theorem dX0_yearBits_24 : decode cX0_yearBits 24 = .ok (.istore_n 1, 1) := by decide +kernel
theorem dX0_yearBits_25 : decode cX0_yearBits 25 = .ok (.iinc 2 1, 3) := by decide +kernel
theorem dX0_yearBits_28 : decode cX0_yearBits 28 = .ok (.goto (-24), 3) := by decide +kernel
theorem dX0_yearBits_31 : decode cX0_yearBits 31 = .ok (.iload_n 1, 1) := by decide +kernel
theorem dX0_yearBits_32 : decode cX0_yearBits 32 = .ok (.ireturn, 1) := by decide +kernel
set_option maxRecDepth 20000 in
theorem ggX0_age_X0_latestYear : GoodIn wsX0_age wsX0_latestYear := goodIn_r _ [6, 7, 20, 21] (by decide +kernel) (by decide +kernel)
set_option maxRecDepth 20000 in
theorem gX0_age_X0_latestYear : GoodIn wsX0_age (wsV RX0 30 RX0 yX0_latestYear wsX0_latestYear) := goodIn_app (goodIn_of _ (by decide +kernel)) ggX0_age_X0_latestYear
set_option maxRecDepth 20000 in
theorem ggX0_age_X0_earliestYear : GoodIn wsX0_age wsX0_earliestYear := goodIn_r _ [11, 7, 20, 21] (by decide +kernel) (by decide +kernel)
set_option maxRecDepth 20000 in
theorem gX0_age_X0_earliestYear : GoodIn wsX0_age (wsV RX0 34 RX0 yX0_earliestYear wsX0_earliestYear) := goodIn_app (goodIn_of _ (by decide +kernel)) ggX0_age_X0_earliestYear
set_option maxRecDepth 20000 in
theorem ggX0_age_X0_commonestYear : GoodIn wsX0_age wsX0_commonestYear := goodIn_r _ [15, 7, 20, 21] (by decide +kernel) (by decide +kernel)
set_option maxRecDepth 20000 in
theorem gX0_age_X0_commonestYear : GoodIn wsX0_age (wsV RX0 37 RX0 yX0_commonestYear wsX0_commonestYear) := goodIn_app (goodIn_of _ (by decide +kernel)) ggX0_age_X0_commonestYear
set_option maxRecDepth 20000 in
theorem ggX0_age_X0_yearSum : GoodIn wsX0_age wsX0_yearSum := goodIn_r _ [19, 7, 20, 21] (by decide +kernel) (by decide +kernel)
set_option maxRecDepth 20000 in
theorem gX0_age_X0_yearSum : GoodIn wsX0_age (wsV RX0 40 RX0 yX0_yearSum wsX0_yearSum) := goodIn_app (goodIn_of _ (by decide +kernel)) ggX0_age_X0_yearSum
theorem dX0_age_0 : decode cX0_age 0 = .ok (.aload_n 0, 1) := by decide +kernel
theorem dX0_age_1 : decode cX0_age 1 = .ok (.getfield 15, 3) := by decide +kernel
theorem dX0_age_4 : decode cX0_age 4 = .ok (.ifCond .gt 5, 3) := by decide +kernel
theorem dX0_age_7 : decode cX0_age 7 = .ok (.iconst (-1), 1) := by decide +kernel
theorem dX0_age_8 : decode cX0_age 8 = .ok (.ireturn, 1) := by decide +kernel
theorem dX0_age_9 : decode cX0_age 9 = .ok (.iload_n 1, 1) := by decide +kernel
theorem dX0_age_10 : decode cX0_age 10 = .ok (.tableswitch 41 0 2 #[26, 31, 36], 26) := by decide +kernel
theorem dX0_age_36 : decode cX0_age 36 = .ok (.aload_n 0, 1) := by decide +kernel
theorem dX0_age_37 : decode cX0_age 37 = .ok (.invokevirtual 30, 3) := by decide +kernel
theorem dX0_age_40 : decode cX0_age 40 = .ok (.ireturn, 1) := by decide +kernel
theorem dX0_age_41 : decode cX0_age 41 = .ok (.aload_n 0, 1) := by decide +kernel
theorem dX0_age_42 : decode cX0_age 42 = .ok (.invokevirtual 34, 3) := by decide +kernel
theorem dX0_age_45 : decode cX0_age 45 = .ok (.ireturn, 1) := by decide +kernel
theorem dX0_age_46 : decode cX0_age 46 = .ok (.aload_n 0, 1) := by decide +kernel
theorem dX0_age_47 : decode cX0_age 47 = .ok (.invokevirtual 37, 3) := by decide +kernel
theorem dX0_age_50 : decode cX0_age 50 = .ok (.ireturn, 1) := by decide +kernel
theorem dX0_age_51 : decode cX0_age 51 = .ok (.aload_n 0, 1) := by decide +kernel
theorem dX0_age_52 : decode cX0_age 52 = .ok (.invokevirtual 40, 3) := by decide +kernel
theorem dX0_age_55 : decode cX0_age 55 = .ok (.aload_n 0, 1) := by decide +kernel
theorem dX0_age_56 : decode cX0_age 56 = .ok (.getfield 15, 3) := by decide +kernel
theorem dX0_age_59 : decode cX0_age 59 = .ok (.idiv, 1) := by decide +kernel
theorem dX0_age_60 : decode cX0_age 60 = .ok (.ireturn, 1) := by decide +kernel
theorem dX0_earliestYear_0 : decode cX0_earliestYear 0 = .ok (.iconst 0, 1) := by decide +kernel
theorem dX0_earliestYear_1 : decode cX0_earliestYear 1 = .ok (.istore_n 1, 1) := by decide +kernel
theorem dX0_earliestYear_2 : decode cX0_earliestYear 2 = .ok (.iload_n 1, 1) := by decide +kernel
theorem dX0_earliestYear_3 : decode cX0_earliestYear 3 = .ok (.bipush 10, 2) := by decide +kernel
theorem dX0_earliestYear_5 : decode cX0_earliestYear 5 = .ok (.if_icmp .ge 20, 3) := by decide +kernel
theorem dX0_earliestYear_8 : decode cX0_earliestYear 8 = .ok (.aload_n 0, 1) := by decide +kernel
theorem dX0_earliestYear_9 : decode cX0_earliestYear 9 = .ok (.getfield 9, 3) := by decide +kernel
theorem dX0_earliestYear_12 : decode cX0_earliestYear 12 = .ok (.iload_n 1, 1) := by decide +kernel
theorem dX0_earliestYear_13 : decode cX0_earliestYear 13 = .ok (.iaload, 1) := by decide +kernel
theorem dX0_earliestYear_14 : decode cX0_earliestYear 14 = .ok (.ifCond .le 5, 3) := by decide +kernel
theorem dX0_earliestYear_17 : decode cX0_earliestYear 17 = .ok (.iload_n 1, 1) := by decide +kernel
theorem dX0_earliestYear_18 : decode cX0_earliestYear 18 = .ok (.ireturn, 1) := by decide +kernel
theorem dX0_earliestYear_19 : decode cX0_earliestYear 19 = .ok (.iinc 1 1, 3) := by decide +kernel
theorem dX0_earliestYear_22 : decode cX0_earliestYear 22 = .ok (.goto (-20), 3) := by decide +kernel
theorem dX0_earliestYear_25 : decode cX0_earliestYear 25 = .ok (.iconst (-1), 1) := by decide +kernel
theorem dX0_earliestYear_26 : decode cX0_earliestYear 26 = .ok (.ireturn, 1) := by decide +kernel
theorem dX0_commonestYear_0 : decode cX0_commonestYear 0 = .ok (.iconst 0, 1) := by decide +kernel
theorem dX0_commonestYear_1 : decode cX0_commonestYear 1 = .ok (.istore_n 1, 1) := by decide +kernel
theorem dX0_commonestYear_2 : decode cX0_commonestYear 2 = .ok (.iconst 1, 1) := by decide +kernel
theorem dX0_commonestYear_3 : decode cX0_commonestYear 3 = .ok (.istore_n 2, 1) := by decide +kernel
theorem dX0_commonestYear_4 : decode cX0_commonestYear 4 = .ok (.iload_n 2, 1) := by decide +kernel
theorem dX0_commonestYear_5 : decode cX0_commonestYear 5 = .ok (.bipush 10, 2) := by decide +kernel
theorem dX0_commonestYear_7 : decode cX0_commonestYear 7 = .ok (.if_icmp .ge 26, 3) := by decide +kernel
theorem dX0_commonestYear_10 : decode cX0_commonestYear 10 = .ok (.aload_n 0, 1) := by decide +kernel
theorem dX0_commonestYear_11 : decode cX0_commonestYear 11 = .ok (.getfield 9, 3) := by decide +kernel
theorem dX0_commonestYear_14 : decode cX0_commonestYear 14 = .ok (.iload_n 2, 1) := by decide +kernel
theorem dX0_commonestYear_15 : decode cX0_commonestYear 15 = .ok (.iaload, 1) := by decide +kernel
theorem dX0_commonestYear_16 : decode cX0_commonestYear 16 = .ok (.aload_n 0, 1) := by decide +kernel
theorem dX0_commonestYear_17 : decode cX0_commonestYear 17 = .ok (.getfield 9, 3) := by decide +kernel
theorem dX0_commonestYear_20 : decode cX0_commonestYear 20 = .ok (.iload_n 1, 1) := by decide +kernel
theorem dX0_commonestYear_21 : decode cX0_commonestYear 21 = .ok (.iaload, 1) := by decide +kernel
theorem dX0_commonestYear_22 : decode cX0_commonestYear 22 = .ok (.if_icmp .lt 5, 3) := by decide +kernel
theorem dX0_commonestYear_25 : decode cX0_commonestYear 25 = .ok (.iload_n 2, 1) := by decide +kernel
theorem dX0_commonestYear_26 : decode cX0_commonestYear 26 = .ok (.istore_n 1, 1) := by decide +kernel
theorem dX0_commonestYear_27 : decode cX0_commonestYear 27 = .ok (.iinc 2 1, 3) := by decide +kernel
theorem dX0_commonestYear_30 : decode cX0_commonestYear 30 = .ok (.goto (-26), 3) := by decide +kernel
theorem dX0_commonestYear_33 : decode cX0_commonestYear 33 = .ok (.iload_n 1, 1) := by decide +kernel
theorem dX0_commonestYear_34 : decode cX0_commonestYear 34 = .ok (.ireturn, 1) := by decide +kernel
theorem dX0_yearSum_0 : decode cX0_yearSum 0 = .ok (.iconst 0, 1) := by decide +kernel
theorem dX0_yearSum_1 : decode cX0_yearSum 1 = .ok (.istore_n 1, 1) := by decide +kernel
theorem dX0_yearSum_2 : decode cX0_yearSum 2 = .ok (.iconst 0, 1) := by decide +kernel
theorem dX0_yearSum_3 : decode cX0_yearSum 3 = .ok (.istore_n 2, 1) := by decide +kernel
theorem dX0_yearSum_4 : decode cX0_yearSum 4 = .ok (.iload_n 2, 1) := by decide +kernel
theorem dX0_yearSum_5 : decode cX0_yearSum 5 = .ok (.bipush 10, 2) := by decide +kernel
theorem dX0_yearSum_7 : decode cX0_yearSum 7 = .ok (.if_icmp .ge 20, 3) := by decide +kernel
theorem dX0_yearSum_10 : decode cX0_yearSum 10 = .ok (.iload_n 1, 1) := by decide +kernel
theorem dX0_yearSum_11 : decode cX0_yearSum 11 = .ok (.iload_n 2, 1) := by decide +kernel
theorem dX0_yearSum_12 : decode cX0_yearSum 12 = .ok (.aload_n 0, 1) := by decide +kernel
theorem dX0_yearSum_13 : decode cX0_yearSum 13 = .ok (.getfield 9, 3) := by decide +kernel
theorem dX0_yearSum_16 : decode cX0_yearSum 16 = .ok (.iload_n 2, 1) := by decide +kernel
theorem dX0_yearSum_17 : decode cX0_yearSum 17 = .ok (.iaload, 1) := by decide +kernel
theorem dX0_yearSum_18 : decode cX0_yearSum 18 = .ok (.imul, 1) := by decide +kernel
theorem dX0_yearSum_19 : decode cX0_yearSum 19 = .ok (.iadd, 1) := by decide +kernel
theorem dX0_yearSum_20 : decode cX0_yearSum 20 = .ok (.istore_n 1, 1) := by decide +kernel
theorem dX0_yearSum_21 : decode cX0_yearSum 21 = .ok (.iinc 2 1, 3) := by decide +kernel
theorem dX0_yearSum_24 : decode cX0_yearSum 24 = .ok (.goto (-20), 3) := by decide +kernel
theorem dX0_yearSum_27 : decode cX0_yearSum 27 = .ok (.iload_n 1, 1) := by decide +kernel
theorem dX0_yearSum_28 : decode cX0_yearSum 28 = .ok (.ireturn, 1) := by decide +kernel
set_option maxRecDepth 20000 in
theorem ggX1_init_X0_init : GoodIn wsX1_init wsX0_init := goodIn_r _ [15, 16, 2, 3, 6, 17, 29, 30] (by decide +kernel) (by decide +kernel)
set_option maxRecDepth 20000 in
theorem gX1_init_X0_init_n33 : GoodIn wsX1_init (wsX0_init) := ggX1_init_X0_init
theorem dX1_init_0 : decode cX1_init 0 = .ok (.aload_n 0, 1) := by decide +kernel
theorem dX1_init_1 : decode cX1_init 1 = .ok (.invokespecial 3, 3) := by decide +kernel
theorem dX1_init_4 : decode cX1_init 4 = .ok (.aload_n 0, 1) := by decide +kernel
theorem dX1_init_5 : decode cX1_init 5 = .ok (.iconst 5, 1) := by decide +kernel
theorem dX1_init_6 : decode cX1_init 6 = .ok (.anewarray 9, 3) := by decide +kernel
theorem dX1_init_9 : decode cX1_init 9 = .ok (.putfield 11, 3) := by decide +kernel
theorem dX1_init_12 : decode cX1_init 12 = .ok (.aload_n 0, 1) := by decide +kernel
theorem dX1_init_13 : decode cX1_init 13 = .ok (.iconst 5, 1) := by decide +kernel
theorem dX1_init_14 : decode cX1_init 14 = .ok (.newarray .int, 2) := by decide +kernel
theorem dX1_init_16 : decode cX1_init 16 = .ok (.putfield 17, 3) := by decide +kernel
theorem dX1_init_19 : decode cX1_init 19 = .ok (.aload_n 0, 1) := by decide +kernel
theorem dX1_init_20 : decode cX1_init 20 = .ok (.iconst 5, 1) := by decide +kernel
theorem dX1_init_21 : decode cX1_init 21 = .ok (.newarray .int, 2) := by decide +kernel
theorem dX1_init_23 : decode cX1_init 23 = .ok (.putfield 21, 3) := by decide +kernel
theorem dX1_init_26 : decode cX1_init 26 = .ok (.aload_n 0, 1) := by decide +kernel
theorem dX1_init_27 : decode cX1_init 27 = .ok (.iconst 5, 1) := by decide +kernel
theorem dX1_init_28 : decode cX1_init 28 = .ok (.newarray .int, 2) := by decide +kernel
theorem dX1_init_30 : decode cX1_init 30 = .ok (.putfield 24, 3) := by decide +kernel
theorem dX1_init_33 : decode cX1_init 33 = .ok (.aload_n 0, 1) := by decide +kernel
theorem dX1_init_34 : decode cX1_init 34 = .ok (.bipush 8, 2) := by decide +kernel
theorem dX1_init_36 : decode cX1_init 36 = .ok (.newarray .int, 2) := by decide +kernel
theorem dX1_init_38 : decode cX1_init 38 = .ok (.putfield 27, 3) := by decide +kernel
theorem dX1_init_41 : decode cX1_init 41 = .ok (.aload_n 0, 1) := by decide +kernel
theorem dX1_init_42 : decode cX1_init 42 = .ok (.iconst 5, 1) := by decide +kernel
theorem dX1_init_43 : decode cX1_init 43 = .ok (.newarray .int, 2) := by decide +kernel
theorem dX1_init_45 : decode cX1_init 45 = .ok (.putfield 30, 3) := by decide +kernel
theorem dX1_init_48 : decode cX1_init 48 = .ok (.iconst 0, 1) := by decide +kernel
theorem dX1_init_49 : decode cX1_init 49 = .ok (.istore_n 1, 1) := by decide +kernel
theorem dX1_init_50 : decode cX1_init 50 = .ok (.iload_n 1, 1) := by decide +kernel
theorem dX1_init_51 : decode cX1_init 51 = .ok (.iconst 5, 1) := by decide +kernel
theorem dX1_init_52 : decode cX1_init 52 = .ok (.if_icmp .ge 22, 3) := by decide +kernel
theorem dX1_init_55 : decode cX1_init 55 = .ok (.aload_n 0, 1) := by decide +kernel
theorem dX1_init_56 : decode cX1_init 56 = .ok (.getfield 11, 3) := by decide +kernel
theorem dX1_init_59 : decode cX1_init 59 = .ok (.iload_n 1, 1) := by decide +kernel
theorem dX1_init_60 : decode cX1_init 60 = .ok (.new 9, 3) := by decide +kernel
theorem dX1_init_63 : decode cX1_init 63 = .ok (.dup, 1) := by decide +kernel
theorem dX1_init_64 : decode cX1_init 64 = .ok (.invokespecial 33, 3) := by decide +kernel
theorem dX1_init_67 : decode cX1_init 67 = .ok (.aastore, 1) := by decide +kernel
theorem dX1_init_68 : decode cX1_init 68 = .ok (.iinc 1 1, 3) := by decide +kernel
theorem dX1_init_71 : decode cX1_init 71 = .ok (.goto (-21), 3) := by decide +kernel
theorem dX1_init_74 : decode cX1_init 74 = .ok (.return_, 1) := by decide +kernel
set_option maxRecDepth 20000 in
theorem ggX1_readFrom_X2_digitAt : GoodIn wsX1_readFrom wsX2_digitAt := goodIn_r _ [13, 14, 15, 45, 46] (by decide +kernel) (by decide +kernel)
set_option maxRecDepth 20000 in
theorem gX1_readFrom_X2_digitAt : GoodIn wsX1_readFrom (wsV RX1 34 RX2 yX2_digitAt wsX2_digitAt) := goodIn_app (goodIn_of _ (by decide +kernel)) ggX1_readFrom_X2_digitAt
set_option maxRecDepth 20000 in
theorem ggX1_readFrom_X0_drain : GoodIn wsX1_readFrom wsX0_drain := goodIn_r _ [20, 21, 22, 47, 48] (by decide +kernel) (by decide +kernel)
set_option maxRecDepth 20000 in
theorem gX1_readFrom_X0_drain : GoodIn wsX1_readFrom (wsV RX1 53 RX0 yX0_drain wsX0_drain) := goodIn_app (goodIn_of _ (by decide +kernel)) ggX1_readFrom_X0_drain
set_option maxRecDepth 20000 in
theorem ggX1_readFrom_X0_put : GoodIn wsX1_readFrom wsX0_put := goodIn_r _ [26, 21, 22, 47, 48] (by decide +kernel) (by decide +kernel)
set_option maxRecDepth 20000 in
theorem gX1_readFrom_X0_put : GoodIn wsX1_readFrom (wsV RX1 56 RX0 yX0_put wsX0_put) := goodIn_app (goodIn_of _ (by decide +kernel)) ggX1_readFrom_X0_put
set_option maxRecDepth 20000 in
theorem ggX1_readFrom_X1_dropTrials : GoodIn wsX1_readFrom wsX1_dropTrials := goodIn_r _ [31, 32, 33, 34, 35, 36, 37, 38, 39, 40, 41, 42, 43, 44] (by decide +kernel) (by decide +kernel)
set_option maxRecDepth 20000 in
theorem gX1_readFrom_X1_dropTrials : GoodIn wsX1_readFrom (wsV RX1 63 RX1 yX1_dropTrials wsX1_dropTrials) := goodIn_app (goodIn_of _ (by decide +kernel)) ggX1_readFrom_X1_dropTrials
theorem dX1_readFrom_0 : decode cX1_readFrom 0 = .ok (.aload_n 0, 1) := by decide +kernel
theorem dX1_readFrom_1 : decode cX1_readFrom 1 = .ok (.aload_n 1, 1) := by decide +kernel
theorem dX1_readFrom_2 : decode cX1_readFrom 2 = .ok (.iconst 0, 1) := by decide +kernel
theorem dX1_readFrom_3 : decode cX1_readFrom 3 = .ok (.invokevirtual 34, 3) := by decide +kernel
theorem dX1_readFrom_6 : decode cX1_readFrom 6 = .ok (.putfield 40, 3) := by decide +kernel
theorem dX1_readFrom_9 : decode cX1_readFrom 9 = .ok (.aload_n 0, 1) := by decide +kernel
theorem dX1_readFrom_10 : decode cX1_readFrom 10 = .ok (.iload_n 2, 1) := by decide +kernel
theorem dX1_readFrom_11 : decode cX1_readFrom 11 = .ok (.iconst 5, 1) := by decide +kernel
theorem dX1_readFrom_12 : decode cX1_readFrom 12 = .ok (.invokestatic 44, 3) := by decide +kernel
theorem dX1_readFrom_15 : decode cX1_readFrom 15 = .ok (.putfield 50, 3) := by decide +kernel
theorem dX1_readFrom_18 : decode cX1_readFrom 18 = .ok (.iconst 0, 1) := by decide +kernel
theorem dX1_readFrom_19 : decode cX1_readFrom 19 = .ok (.istore_n 3, 1) := by decide +kernel
theorem dX1_readFrom_20 : decode cX1_readFrom 20 = .ok (.iload_n 3, 1) := by decide +kernel
theorem dX1_readFrom_21 : decode cX1_readFrom 21 = .ok (.iconst 5, 1) := by decide +kernel
theorem dX1_readFrom_22 : decode cX1_readFrom 22 = .ok (.if_icmp .ge 18, 3) := by decide +kernel
theorem dX1_readFrom_25 : decode cX1_readFrom 25 = .ok (.aload_n 0, 1) := by decide +kernel
theorem dX1_readFrom_26 : decode cX1_readFrom 26 = .ok (.getfield 11, 3) := by decide +kernel
theorem dX1_readFrom_29 : decode cX1_readFrom 29 = .ok (.iload_n 3, 1) := by decide +kernel
theorem dX1_readFrom_30 : decode cX1_readFrom 30 = .ok (.aaload, 1) := by decide +kernel
theorem dX1_readFrom_31 : decode cX1_readFrom 31 = .ok (.invokevirtual 53, 3) := by decide +kernel
theorem dX1_readFrom_34 : decode cX1_readFrom 34 = .ok (.iinc 3 1, 3) := by decide +kernel
theorem dX1_readFrom_37 : decode cX1_readFrom 37 = .ok (.goto (-17), 3) := by decide +kernel
theorem dX1_readFrom_40 : decode cX1_readFrom 40 = .ok (.iconst 0, 1) := by decide +kernel
theorem dX1_readFrom_41 : decode cX1_readFrom 41 = .ok (.istore_n 3, 1) := by decide +kernel
theorem dX1_readFrom_42 : decode cX1_readFrom 42 = .ok (.iload_n 3, 1) := by decide +kernel
theorem dX1_readFrom_43 : decode cX1_readFrom 43 = .ok (.aload_n 0, 1) := by decide +kernel
theorem dX1_readFrom_44 : decode cX1_readFrom 44 = .ok (.getfield 50, 3) := by decide +kernel
theorem dX1_readFrom_47 : decode cX1_readFrom 47 = .ok (.if_icmp .ge 39, 3) := by decide +kernel
theorem dX1_readFrom_50 : decode cX1_readFrom 50 = .ok (.iconst 2, 1) := by decide +kernel
theorem dX1_readFrom_51 : decode cX1_readFrom 51 = .ok (.iconst 3, 1) := by decide +kernel
theorem dX1_readFrom_52 : decode cX1_readFrom 52 = .ok (.iload_n 3, 1) := by decide +kernel
theorem dX1_readFrom_53 : decode cX1_readFrom 53 = .ok (.imul, 1) := by decide +kernel
theorem dX1_readFrom_54 : decode cX1_readFrom 54 = .ok (.iadd, 1) := by decide +kernel
theorem dX1_readFrom_55 : decode cX1_readFrom 55 = .ok (.istore 4, 2) := by decide +kernel
theorem dX1_readFrom_57 : decode cX1_readFrom 57 = .ok (.aload_n 0, 1) := by decide +kernel
theorem dX1_readFrom_58 : decode cX1_readFrom 58 = .ok (.getfield 11, 3) := by decide +kernel
theorem dX1_readFrom_61 : decode cX1_readFrom 61 = .ok (.iload_n 3, 1) := by decide +kernel
theorem dX1_readFrom_62 : decode cX1_readFrom 62 = .ok (.aaload, 1) := by decide +kernel
theorem dX1_readFrom_63 : decode cX1_readFrom 63 = .ok (.aload_n 1, 1) := by decide +kernel
theorem dX1_readFrom_64 : decode cX1_readFrom 64 = .ok (.iload 4, 2) := by decide +kernel
theorem dX1_readFrom_66 : decode cX1_readFrom 66 = .ok (.invokevirtual 34, 3) := by decide +kernel
theorem dX1_readFrom_69 : decode cX1_readFrom 69 = .ok (.aload_n 1, 1) := by decide +kernel
theorem dX1_readFrom_70 : decode cX1_readFrom 70 = .ok (.iload 4, 2) := by decide +kernel
theorem dX1_readFrom_72 : decode cX1_readFrom 72 = .ok (.iconst 1, 1) := by decide +kernel
theorem dX1_readFrom_73 : decode cX1_readFrom 73 = .ok (.iadd, 1) := by decide +kernel
theorem dX1_readFrom_74 : decode cX1_readFrom 74 = .ok (.invokevirtual 34, 3) := by decide +kernel
theorem dX1_readFrom_77 : decode cX1_readFrom 77 = .ok (.invokevirtual 56, 3) := by decide +kernel
theorem dX1_readFrom_80 : decode cX1_readFrom 80 = .ok (.iinc 3 1, 3) := by decide +kernel
theorem dX1_readFrom_83 : decode cX1_readFrom 83 = .ok (.goto (-41), 3) := by decide +kernel
theorem dX1_readFrom_86 : decode cX1_readFrom 86 = .ok (.aload_n 0, 1) := by decide +kernel
theorem dX1_readFrom_87 : decode cX1_readFrom 87 = .ok (.iconst 0, 1) := by decide +kernel
theorem dX1_readFrom_88 : decode cX1_readFrom 88 = .ok (.putfield 60, 3) := by decide +kernel
theorem dX1_readFrom_91 : decode cX1_readFrom 91 = .ok (.aload_n 0, 1) := by decide +kernel
theorem dX1_readFrom_92 : decode cX1_readFrom 92 = .ok (.invokevirtual 63, 3) := by decide +kernel
theorem dX1_readFrom_95 : decode cX1_readFrom 95 = .ok (.pop, 1) := by decide +kernel
theorem dX1_readFrom_96 : decode cX1_readFrom 96 = .ok (.return_, 1) := by decide +kernel
set_option maxRecDepth 20000 in
theorem ggX1_become_X0_become : GoodIn wsX1_become wsX0_become := goodIn_r _ [19, 20, 21, 22, 18, 23, 24, 25, 26, 27, 28, 29, 30, 31, 32, 33, 45, 46] (by decide +kernel) (by decide +kernel)
set_option maxRecDepth 20000 in
theorem gX1_become_X0_become : GoodIn wsX1_become (wsV RX1 67 RX0 yX0_become wsX0_become) := goodIn_app (goodIn_of _ (by decide +kernel)) ggX1_become_X0_become
theorem dX1_become_0 : decode cX1_become 0 = .ok (.aload_n 0, 1) := by decide +kernel
theorem dX1_become_1 : decode cX1_become 1 = .ok (.aload_n 1, 1) := by decide +kernel
theorem dX1_become_2 : decode cX1_become 2 = .ok (.getfield 40, 3) := by decide +kernel
theorem dX1_become_5 : decode cX1_become 5 = .ok (.putfield 40, 3) := by decide +kernel
theorem dX1_become_8 : decode cX1_become 8 = .ok (.aload_n 0, 1) := by decide +kernel
theorem dX1_become_9 : decode cX1_become 9 = .ok (.aload_n 1, 1) := by decide +kernel
theorem dX1_become_10 : decode cX1_become 10 = .ok (.getfield 50, 3) := by decide +kernel
theorem dX1_become_13 : decode cX1_become 13 = .ok (.putfield 50, 3) := by decide +kernel
theorem dX1_become_16 : decode cX1_become 16 = .ok (.iconst 0, 1) := by decide +kernel
theorem dX1_become_17 : decode cX1_become 17 = .ok (.istore_n 2, 1) := by decide +kernel
theorem dX1_become_18 : decode cX1_become 18 = .ok (.iload_n 2, 1) := by decide +kernel
theorem dX1_become_19 : decode cX1_become 19 = .ok (.iconst 5, 1) := by decide +kernel
theorem dX1_become_20 : decode cX1_become 20 = .ok (.if_icmp .ge 24, 3) := by decide +kernel
theorem dX1_become_23 : decode cX1_become 23 = .ok (.aload_n 0, 1) := by decide +kernel
theorem dX1_become_24 : decode cX1_become 24 = .ok (.getfield 11, 3) := by decide +kernel
theorem dX1_become_27 : decode cX1_become 27 = .ok (.iload_n 2, 1) := by decide +kernel
theorem dX1_become_28 : decode cX1_become 28 = .ok (.aaload, 1) := by decide +kernel
theorem dX1_become_29 : decode cX1_become 29 = .ok (.aload_n 1, 1) := by decide +kernel
theorem dX1_become_30 : decode cX1_become 30 = .ok (.getfield 11, 3) := by decide +kernel
theorem dX1_become_33 : decode cX1_become 33 = .ok (.iload_n 2, 1) := by decide +kernel
theorem dX1_become_34 : decode cX1_become 34 = .ok (.aaload, 1) := by decide +kernel
theorem dX1_become_35 : decode cX1_become 35 = .ok (.invokevirtual 67, 3) := by decide +kernel
theorem dX1_become_38 : decode cX1_become 38 = .ok (.iinc 2 1, 3) := by decide +kernel
theorem dX1_become_41 : decode cX1_become 41 = .ok (.goto (-23), 3) := by decide +kernel
theorem dX1_become_44 : decode cX1_become 44 = .ok (.aload_n 0, 1) := by decide +kernel
theorem dX1_become_45 : decode cX1_become 45 = .ok (.aload_n 1, 1) := by decide +kernel
theorem dX1_become_46 : decode cX1_become 46 = .ok (.getfield 60, 3) := by decide +kernel
theorem dX1_become_49 : decode cX1_become 49 = .ok (.putfield 60, 3) := by decide +kernel
theorem dX1_become_52 : decode cX1_become 52 = .ok (.aload_n 1, 1) := by decide +kernel
theorem dX1_become_53 : decode cX1_become 53 = .ok (.getfield 17, 3) := by decide +kernel
theorem dX1_become_56 : decode cX1_become 56 = .ok (.iconst 0, 1) := by decide +kernel
theorem dX1_become_57 : decode cX1_become 57 = .ok (.aload_n 0, 1) := by decide +kernel
theorem dX1_become_58 : decode cX1_become 58 = .ok (.getfield 17, 3) := by decide +kernel
theorem dX1_become_61 : decode cX1_become 61 = .ok (.iconst 0, 1) := by decide +kernel
theorem dX1_become_62 : decode cX1_become 62 = .ok (.iconst 5, 1) := by decide +kernel
theorem dX1_become_63 : decode cX1_become 63 = .ok (.invokestatic 71, 3) := by decide +kernel
theorem dX1_become_66 : decode cX1_become 66 = .ok (.aload_n 1, 1) := by decide +kernel
theorem dX1_become_67 : decode cX1_become 67 = .ok (.getfield 21, 3) := by decide +kernel
theorem dX1_become_70 : decode cX1_become 70 = .ok (.iconst 0, 1) := by decide +kernel
theorem dX1_become_71 : decode cX1_become 71 = .ok (.aload_n 0, 1) := by decide +kernel
theorem dX1_become_72 : decode cX1_become 72 = .ok (.getfield 21, 3) := by decide +kernel
theorem dX1_become_75 : decode cX1_become 75 = .ok (.iconst 0, 1) := by decide +kernel
theorem dX1_become_76 : decode cX1_become 76 = .ok (.iconst 5, 1) := by decide +kernel
theorem dX1_become_77 : decode cX1_become 77 = .ok (.invokestatic 71, 3) := by decide +kernel
theorem dX1_become_80 : decode cX1_become 80 = .ok (.aload_n 1, 1) := by decide +kernel
theorem dX1_become_81 : decode cX1_become 81 = .ok (.getfield 24, 3) := by decide +kernel
theorem dX1_become_84 : decode cX1_become 84 = .ok (.iconst 0, 1) := by decide +kernel
theorem dX1_become_85 : decode cX1_become 85 = .ok (.aload_n 0, 1) := by decide +kernel
theorem dX1_become_86 : decode cX1_become 86 = .ok (.getfield 24, 3) := by decide +kernel
theorem dX1_become_89 : decode cX1_become 89 = .ok (.iconst 0, 1) := by decide +kernel
theorem dX1_become_90 : decode cX1_become 90 = .ok (.iconst 5, 1) := by decide +kernel
theorem dX1_become_91 : decode cX1_become 91 = .ok (.invokestatic 71, 3) := by decide +kernel
theorem dX1_become_94 : decode cX1_become 94 = .ok (.aload_n 0, 1) := by decide +kernel
theorem dX1_become_95 : decode cX1_become 95 = .ok (.aload_n 1, 1) := by decide +kernel
theorem dX1_become_96 : decode cX1_become 96 = .ok (.getfield 77, 3) := by decide +kernel
theorem dX1_become_99 : decode cX1_become 99 = .ok (.putfield 77, 3) := by decide +kernel
theorem dX1_become_102 : decode cX1_become 102 = .ok (.aload_n 0, 1) := by decide +kernel
theorem dX1_become_103 : decode cX1_become 103 = .ok (.aload_n 1, 1) := by decide +kernel
theorem dX1_become_104 : decode cX1_become 104 = .ok (.getfield 80, 3) := by decide +kernel
theorem dX1_become_107 : decode cX1_become 107 = .ok (.putfield 80, 3) := by decide +kernel
theorem dX1_become_110 : decode cX1_become 110 = .ok (.aload_n 1, 1) := by decide +kernel
theorem dX1_become_111 : decode cX1_become 111 = .ok (.getfield 27, 3) := by decide +kernel
theorem dX1_become_114 : decode cX1_become 114 = .ok (.iconst 0, 1) := by decide +kernel
theorem dX1_become_115 : decode cX1_become 115 = .ok (.aload_n 0, 1) := by decide +kernel
theorem dX1_become_116 : decode cX1_become 116 = .ok (.getfield 27, 3) := by decide +kernel
theorem dX1_become_119 : decode cX1_become 119 = .ok (.iconst 0, 1) := by decide +kernel
theorem dX1_become_120 : decode cX1_become 120 = .ok (.bipush 8, 2) := by decide +kernel
theorem dX1_become_122 : decode cX1_become 122 = .ok (.invokestatic 71, 3) := by decide +kernel
theorem dX1_become_125 : decode cX1_become 125 = .ok (.return_, 1) := by decide +kernel
theorem dX1_isThere_0 : decode cX1_isThere 0 = .ok (.aload_n 0, 1) := by decide +kernel
theorem dX1_isThere_1 : decode cX1_isThere 1 = .ok (.getfield 50, 3) := by decide +kernel
theorem dX1_isThere_4 : decode cX1_isThere 4 = .ok (.ifCond .le 7, 3) := by decide +kernel
theorem dX1_isThere_7 : decode cX1_isThere 7 = .ok (.iconst 1, 1) := by decide +kernel
theorem dX1_isThere_8 : decode cX1_isThere 8 = .ok (.goto 4, 3) := by decide +kernel
theorem dX1_isThere_11 : decode cX1_isThere 11 = .ok (.iconst 0, 1) := by decide +kernel
theorem dX1_isThere_12 : decode cX1_isThere 12 = .ok (.ireturn, 1) := by decide +kernel
theorem dX1_hasCask_0 : decode cX1_hasCask 0 = .ok (.iload_n 1, 1) := by decide +kernel
theorem dX1_hasCask_1 : decode cX1_hasCask 1 = .ok (.ifCond .lt 15, 3) := by decide +kernel
theorem dX1_hasCask_4 : decode cX1_hasCask 4 = .ok (.iload_n 1, 1) := by decide +kernel
theorem dX1_hasCask_5 : decode cX1_hasCask 5 = .ok (.aload_n 0, 1) := by decide +kernel
theorem dX1_hasCask_6 : decode cX1_hasCask 6 = .ok (.getfield 50, 3) := by decide +kernel
theorem dX1_hasCask_9 : decode cX1_hasCask 9 = .ok (.if_icmp .ge 7, 3) := by decide +kernel
theorem dX1_hasCask_12 : decode cX1_hasCask 12 = .ok (.iconst 1, 1) := by decide +kernel
theorem dX1_hasCask_13 : decode cX1_hasCask 13 = .ok (.goto 4, 3) := by decide +kernel
theorem dX1_hasCask_16 : decode cX1_hasCask 16 = .ok (.iconst 0, 1) := by decide +kernel
theorem dX1_hasCask_17 : decode cX1_hasCask 17 = .ok (.ireturn, 1) := by decide +kernel
theorem dX1_hasPerson_0 : decode cX1_hasPerson 0 = .ok (.iload_n 1, 1) := by decide +kernel
theorem dX1_hasPerson_1 : decode cX1_hasPerson 1 = .ok (.ifCond .lt 15, 3) := by decide +kernel
theorem dX1_hasPerson_4 : decode cX1_hasPerson 4 = .ok (.iload_n 1, 1) := by decide +kernel
theorem dX1_hasPerson_5 : decode cX1_hasPerson 5 = .ok (.aload_n 0, 1) := by decide +kernel
theorem dX1_hasPerson_6 : decode cX1_hasPerson 6 = .ok (.getfield 60, 3) := by decide +kernel
theorem dX1_hasPerson_9 : decode cX1_hasPerson 9 = .ok (.if_icmp .ge 7, 3) := by decide +kernel
theorem dX1_hasPerson_12 : decode cX1_hasPerson 12 = .ok (.iconst 1, 1) := by decide +kernel
theorem dX1_hasPerson_13 : decode cX1_hasPerson 13 = .ok (.goto 4, 3) := by decide +kernel
theorem dX1_hasPerson_16 : decode cX1_hasPerson 16 = .ok (.iconst 0, 1) := by decide +kernel
theorem dX1_hasPerson_17 : decode cX1_hasPerson 17 = .ok (.ireturn, 1) := by decide +kernel
theorem dX1_allPeople_0 : decode cX1_allPeople 0 = .ok (.iconst 1, 1) := by decide +kernel
theorem dX1_allPeople_1 : decode cX1_allPeople 1 = .ok (.aload_n 0, 1) := by decide +kernel
theorem dX1_allPeople_2 : decode cX1_allPeople 2 = .ok (.getfield 60, 3) := by decide +kernel
theorem dX1_allPeople_5 : decode cX1_allPeople 5 = .ok (.ishl, 1) := by decide +kernel
theorem dX1_allPeople_6 : decode cX1_allPeople 6 = .ok (.iconst 1, 1) := by decide +kernel
theorem dX1_allPeople_7 : decode cX1_allPeople 7 = .ok (.isub, 1) := by decide +kernel
theorem dX1_allPeople_8 : decode cX1_allPeople 8 = .ok (.ireturn, 1) := by decide +kernel
set_option maxRecDepth 20000 in
theorem ggX1_arePeople_X1_allPeople : GoodIn wsX1_arePeople wsX1_allPeople := goodIn_r _ [5, 6, 7, 8, 9, 10, 11, 12, 13, 14, 15, 16, 17] (by decide +kernel) (by decide +kernel)
set_option maxRecDepth 20000 in
theorem gX1_arePeople_X1_allPeople : GoodIn wsX1_arePeople (wsV RX1 83 RX1 yX1_allPeople wsX1_allPeople) := goodIn_app (goodIn_of _ (by decide +kernel)) ggX1_arePeople_X1_allPeople
theorem dX1_arePeople_0 : decode cX1_arePeople 0 = .ok (.iload_n 1, 1) := by decide +kernel
theorem dX1_arePeople_1 : decode cX1_arePeople 1 = .ok (.aload_n 0, 1) := by decide +kernel
theorem dX1_arePeople_2 : decode cX1_arePeople 2 = .ok (.invokevirtual 83, 3) := by decide +kernel
theorem dX1_arePeople_5 : decode cX1_arePeople 5 = .ok (.iconst (-1), 1) := by decide +kernel
theorem dX1_arePeople_6 : decode cX1_arePeople 6 = .ok (.ixor, 1) := by decide +kernel
theorem dX1_arePeople_7 : decode cX1_arePeople 7 = .ok (.iand, 1) := by decide +kernel
theorem dX1_arePeople_8 : decode cX1_arePeople 8 = .ok (.ifCond .ne 7, 3) := by decide +kernel
theorem dX1_arePeople_11 : decode cX1_arePeople 11 = .ok (.iconst 1, 1) := by decide +kernel
theorem dX1_arePeople_12 : decode cX1_arePeople 12 = .ok (.goto 4, 3) := by decide +kernel
theorem dX1_arePeople_15 : decode cX1_arePeople 15 = .ok (.iconst 0, 1) := by decide +kernel
theorem dX1_arePeople_16 : decode cX1_arePeople 16 = .ok (.ireturn, 1) := by decide +kernel
theorem dX1_litresInAll_0 : decode cX1_litresInAll 0 = .ok (.iconst 0, 1) := by decide +kernel
theorem dX1_litresInAll_1 : decode cX1_litresInAll 1 = .ok (.istore_n 1, 1) := by decide +kernel
theorem dX1_litresInAll_2 : decode cX1_litresInAll 2 = .ok (.iconst 0, 1) := by decide +kernel
theorem dX1_litresInAll_3 : decode cX1_litresInAll 3 = .ok (.istore_n 2, 1) := by decide +kernel
theorem dX1_litresInAll_4 : decode cX1_litresInAll 4 = .ok (.iload_n 2, 1) := by decide +kernel
theorem dX1_litresInAll_5 : decode cX1_litresInAll 5 = .ok (.aload_n 0, 1) := by decide +kernel
theorem dX1_litresInAll_6 : decode cX1_litresInAll 6 = .ok (.getfield 50, 3) := by decide +kernel
theorem dX1_litresInAll_9 : decode cX1_litresInAll 9 = .ok (.if_icmp .ge 21, 3) := by decide +kernel
theorem dX1_litresInAll_12 : decode cX1_litresInAll 12 = .ok (.iload_n 1, 1) := by decide +kernel
theorem dX1_litresInAll_13 : decode cX1_litresInAll 13 = .ok (.aload_n 0, 1) := by decide +kernel
theorem dX1_litresInAll_14 : decode cX1_litresInAll 14 = .ok (.getfield 11, 3) := by decide +kernel
theorem dX1_litresInAll_17 : decode cX1_litresInAll 17 = .ok (.iload_n 2, 1) := by decide +kernel
theorem dX1_litresInAll_18 : decode cX1_litresInAll 18 = .ok (.aaload, 1) := by decide +kernel
theorem dX1_litresInAll_19 : decode cX1_litresInAll 19 = .ok (.getfield 86, 3) := by decide +kernel
theorem dX1_litresInAll_22 : decode cX1_litresInAll 22 = .ok (.iadd, 1) := by decide +kernel
theorem dX1_litresInAll_23 : decode cX1_litresInAll 23 = .ok (.istore_n 1, 1) := by decide +kernel
theorem dX1_litresInAll_24 : decode cX1_litresInAll 24 = .ok (.iinc 2 1, 3) := by decide +kernel
theorem dX1_litresInAll_27 : decode cX1_litresInAll 27 = .ok (.goto (-23), 3) := by decide +kernel
theorem dX1_litresInAll_30 : decode cX1_litresInAll 30 = .ok (.iload_n 1, 1) := by decide +kernel
theorem dX1_litresInAll_31 : decode cX1_litresInAll 31 = .ok (.ireturn, 1) := by decide +kernel
theorem dX1_illInAll_0 : decode cX1_illInAll 0 = .ok (.iconst 0, 1) := by decide +kernel
theorem dX1_illInAll_1 : decode cX1_illInAll 1 = .ok (.istore_n 1, 1) := by decide +kernel
theorem dX1_illInAll_2 : decode cX1_illInAll 2 = .ok (.iconst 0, 1) := by decide +kernel
theorem dX1_illInAll_3 : decode cX1_illInAll 3 = .ok (.istore_n 2, 1) := by decide +kernel
theorem dX1_illInAll_4 : decode cX1_illInAll 4 = .ok (.iload_n 2, 1) := by decide +kernel
theorem dX1_illInAll_5 : decode cX1_illInAll 5 = .ok (.aload_n 0, 1) := by decide +kernel
theorem dX1_illInAll_6 : decode cX1_illInAll 6 = .ok (.getfield 60, 3) := by decide +kernel
theorem dX1_illInAll_9 : decode cX1_illInAll 9 = .ok (.if_icmp .ge 18, 3) := by decide +kernel
theorem dX1_illInAll_12 : decode cX1_illInAll 12 = .ok (.iload_n 1, 1) := by decide +kernel
theorem dX1_illInAll_13 : decode cX1_illInAll 13 = .ok (.aload_n 0, 1) := by decide +kernel
theorem dX1_illInAll_14 : decode cX1_illInAll 14 = .ok (.getfield 24, 3) := by decide +kernel
theorem dX1_illInAll_17 : decode cX1_illInAll 17 = .ok (.iload_n 2, 1) := by decide +kernel
theorem dX1_illInAll_18 : decode cX1_illInAll 18 = .ok (.iaload, 1) := by decide +kernel
theorem dX1_illInAll_19 : decode cX1_illInAll 19 = .ok (.iadd, 1) := by decide +kernel
theorem dX1_illInAll_20 : decode cX1_illInAll 20 = .ok (.istore_n 1, 1) := by decide +kernel
theorem dX1_illInAll_21 : decode cX1_illInAll 21 = .ok (.iinc 2 1, 3) := by decide +kernel
theorem dX1_illInAll_24 : decode cX1_illInAll 24 = .ok (.goto (-20), 3) := by decide +kernel
theorem dX1_illInAll_27 : decode cX1_illInAll 27 = .ok (.iload_n 1, 1) := by decide +kernel
theorem dX1_illInAll_28 : decode cX1_illInAll 28 = .ok (.ireturn, 1) := by decide +kernel
theorem dX1_welcome_0 : decode cX1_welcome 0 = .ok (.aload_n 0, 1) := by decide +kernel
theorem dX1_welcome_1 : decode cX1_welcome 1 = .ok (.getfield 60, 3) := by decide +kernel
theorem dX1_welcome_4 : decode cX1_welcome 4 = .ok (.iconst 5, 1) := by decide +kernel
theorem dX1_welcome_5 : decode cX1_welcome 5 = .ok (.if_icmp .lt 5, 3) := by decide +kernel
theorem dX1_welcome_8 : decode cX1_welcome 8 = .ok (.iconst (-1), 1) := by decide +kernel
theorem dX1_welcome_9 : decode cX1_welcome 9 = .ok (.ireturn, 1) := by decide +kernel
theorem dX1_welcome_10 : decode cX1_welcome 10 = .ok (.aload_n 0, 1) := by decide +kernel
theorem dX1_welcome_11 : decode cX1_welcome 11 = .ok (.getfield 60, 3) := by decide +kernel
theorem dX1_welcome_14 : decode cX1_welcome 14 = .ok (.istore_n 3, 1) := by decide +kernel
theorem dX1_welcome_15 : decode cX1_welcome 15 = .ok (.aload_n 0, 1) := by decide +kernel
theorem dX1_welcome_16 : decode cX1_welcome 16 = .ok (.getfield 17, 3) := by decide +kernel
theorem dX1_welcome_19 : decode cX1_welcome 19 = .ok (.iload_n 3, 1) := by decide +kernel
theorem dX1_welcome_20 : decode cX1_welcome 20 = .ok (.iload_n 1, 1) := by decide +kernel
theorem dX1_welcome_21 : decode cX1_welcome 21 = .ok (.iastore, 1) := by decide +kernel
theorem dX1_welcome_22 : decode cX1_welcome 22 = .ok (.aload_n 0, 1) := by decide +kernel
theorem dX1_welcome_23 : decode cX1_welcome 23 = .ok (.getfield 21, 3) := by decide +kernel
theorem dX1_welcome_26 : decode cX1_welcome 26 = .ok (.iload_n 3, 1) := by decide +kernel
theorem dX1_welcome_27 : decode cX1_welcome 27 = .ok (.iload_n 2, 1) := by decide +kernel
theorem dX1_welcome_28 : decode cX1_welcome 28 = .ok (.iastore, 1) := by decide +kernel
theorem dX1_welcome_29 : decode cX1_welcome 29 = .ok (.aload_n 0, 1) := by decide +kernel
theorem dX1_welcome_30 : decode cX1_welcome 30 = .ok (.getfield 24, 3) := by decide +kernel
theorem dX1_welcome_33 : decode cX1_welcome 33 = .ok (.iload_n 3, 1) := by decide +kernel
theorem dX1_welcome_34 : decode cX1_welcome 34 = .ok (.iconst 0, 1) := by decide +kernel
theorem dX1_welcome_35 : decode cX1_welcome 35 = .ok (.iastore, 1) := by decide +kernel
theorem dX1_welcome_36 : decode cX1_welcome 36 = .ok (.aload_n 0, 1) := by decide +kernel
theorem dX1_welcome_37 : decode cX1_welcome 37 = .ok (.dup, 1) := by decide +kernel
theorem dX1_welcome_38 : decode cX1_welcome 38 = .ok (.getfield 60, 3) := by decide +kernel
theorem dX1_welcome_41 : decode cX1_welcome 41 = .ok (.iconst 1, 1) := by decide +kernel
theorem dX1_welcome_42 : decode cX1_welcome 42 = .ok (.iadd, 1) := by decide +kernel
theorem dX1_welcome_43 : decode cX1_welcome 43 = .ok (.putfield 60, 3) := by decide +kernel
theorem dX1_welcome_46 : decode cX1_welcome 46 = .ok (.iload_n 3, 1) := by decide +kernel
theorem dX1_welcome_47 : decode cX1_welcome 47 = .ok (.ireturn, 1) := by decide +kernel
set_option maxRecDepth 20000 in
theorem ggX1_whoMay_X0_age : GoodIn wsX1_whoMay wsX0_age := goodIn_r _ [9, 10, 11, 12, 13, 8, 14, 15, 16, 17, 18, 19, 20, 21, 22, 23, 24, 25, 26, 27, 53, 54] (by decide +kernel) (by decide +kernel)
set_option maxRecDepth 20000 in
theorem gX1_whoMay_X0_age : GoodIn wsX1_whoMay (wsV RX1 89 RX0 yX0_age wsX0_age) := goodIn_app (goodIn_of _ (by decide +kernel)) ggX1_whoMay_X0_age
set_option maxRecDepth 20000 in
theorem ggX1_whoMay_X0_yearBits : GoodIn wsX1_whoMay wsX0_yearBits := goodIn_r _ [31, 15, 53, 54] (by decide +kernel) (by decide +kernel)
set_option maxRecDepth 20000 in
theorem gX1_whoMay_X0_yearBits : GoodIn wsX1_whoMay (wsV RX1 92 RX0 yX0_yearBits wsX0_yearBits) := goodIn_app (goodIn_of _ (by decide +kernel)) ggX1_whoMay_X0_yearBits
set_option maxRecDepth 20000 in
theorem ggX1_whoMay_J6_bitCount_0f7a4 : GoodIn wsX1_whoMay wsJ6_bitCount_0f7a4 := goodIn_r _ [35, 36, 37, 38] (by decide +kernel) (by decide +kernel)
set_option maxRecDepth 20000 in
theorem gX1_whoMay_J6_bitCount_0f7a4 : GoodIn wsX1_whoMay (va_wsS RX1 95 yJ6_bitCount_0f7a4 wsJ6_bitCount_0f7a4) := goodIn_app (goodIn_of _ (by decide +kernel)) ggX1_whoMay_J6_bitCount_0f7a4
set_option maxRecDepth 20000 in
theorem ggX1_whoMay_X3_mayDrink : GoodIn wsX1_whoMay wsX3_mayDrink := goodIn_r _ [41] (by decide +kernel) (by decide +kernel)
set_option maxRecDepth 20000 in
theorem gX1_whoMay_X3_mayDrink_n100 : GoodIn wsX1_whoMay (wsX3_mayDrink) := ggX1_whoMay_X3_mayDrink
theorem dX1_whoMay_0 : decode cX1_whoMay 0 = .ok (.aload_n 1, 1) := by decide +kernel
theorem dX1_whoMay_1 : decode cX1_whoMay 1 = .ok (.aload_n 0, 1) := by decide +kernel
theorem dX1_whoMay_2 : decode cX1_whoMay 2 = .ok (.getfield 40, 3) := by decide +kernel
theorem dX1_whoMay_5 : decode cX1_whoMay 5 = .ok (.invokevirtual 89, 3) := by decide +kernel
theorem dX1_whoMay_8 : decode cX1_whoMay 8 = .ok (.istore_n 2, 1) := by decide +kernel
theorem dX1_whoMay_9 : decode cX1_whoMay 9 = .ok (.aload_n 1, 1) := by decide +kernel
theorem dX1_whoMay_10 : decode cX1_whoMay 10 = .ok (.invokevirtual 92, 3) := by decide +kernel
theorem dX1_whoMay_13 : decode cX1_whoMay 13 = .ok (.invokestatic 95, 3) := by decide +kernel
theorem dX1_whoMay_16 : decode cX1_whoMay 16 = .ok (.istore_n 3, 1) := by decide +kernel
theorem dX1_whoMay_17 : decode cX1_whoMay 17 = .ok (.iconst 0, 1) := by decide +kernel
theorem dX1_whoMay_18 : decode cX1_whoMay 18 = .ok (.istore 4, 2) := by decide +kernel
theorem dX1_whoMay_20 : decode cX1_whoMay 20 = .ok (.iconst 0, 1) := by decide +kernel
theorem dX1_whoMay_21 : decode cX1_whoMay 21 = .ok (.istore 5, 2) := by decide +kernel
theorem dX1_whoMay_23 : decode cX1_whoMay 23 = .ok (.iload 5, 2) := by decide +kernel
theorem dX1_whoMay_25 : decode cX1_whoMay 25 = .ok (.aload_n 0, 1) := by decide +kernel
theorem dX1_whoMay_26 : decode cX1_whoMay 26 = .ok (.getfield 60, 3) := by decide +kernel
theorem dX1_whoMay_29 : decode cX1_whoMay 29 = .ok (.if_icmp .ge 40, 3) := by decide +kernel
theorem dX1_whoMay_32 : decode cX1_whoMay 32 = .ok (.aload_n 0, 1) := by decide +kernel
theorem dX1_whoMay_33 : decode cX1_whoMay 33 = .ok (.getfield 17, 3) := by decide +kernel
theorem dX1_whoMay_36 : decode cX1_whoMay 36 = .ok (.iload 5, 2) := by decide +kernel
theorem dX1_whoMay_38 : decode cX1_whoMay 38 = .ok (.iaload, 1) := by decide +kernel
theorem dX1_whoMay_39 : decode cX1_whoMay 39 = .ok (.aload_n 0, 1) := by decide +kernel
theorem dX1_whoMay_40 : decode cX1_whoMay 40 = .ok (.getfield 21, 3) := by decide +kernel
theorem dX1_whoMay_43 : decode cX1_whoMay 43 = .ok (.iload 5, 2) := by decide +kernel
theorem dX1_whoMay_45 : decode cX1_whoMay 45 = .ok (.iaload, 1) := by decide +kernel
theorem dX1_whoMay_46 : decode cX1_whoMay 46 = .ok (.iload_n 2, 1) := by decide +kernel
theorem dX1_whoMay_47 : decode cX1_whoMay 47 = .ok (.iload_n 3, 1) := by decide +kernel
theorem dX1_whoMay_48 : decode cX1_whoMay 48 = .ok (.invokestatic 100, 3) := by decide +kernel
theorem dX1_whoMay_51 : decode cX1_whoMay 51 = .ok (.ifCond .eq 12, 3) := by decide +kernel
theorem dX1_whoMay_54 : decode cX1_whoMay 54 = .ok (.iload 4, 2) := by decide +kernel
theorem dX1_whoMay_56 : decode cX1_whoMay 56 = .ok (.iconst 1, 1) := by decide +kernel
theorem dX1_whoMay_57 : decode cX1_whoMay 57 = .ok (.iload 5, 2) := by decide +kernel
theorem dX1_whoMay_59 : decode cX1_whoMay 59 = .ok (.ishl, 1) := by decide +kernel
theorem dX1_whoMay_60 : decode cX1_whoMay 60 = .ok (.ior, 1) := by decide +kernel
theorem dX1_whoMay_61 : decode cX1_whoMay 61 = .ok (.istore 4, 2) := by decide +kernel
theorem dX1_whoMay_63 : decode cX1_whoMay 63 = .ok (.iinc 5 1, 3) := by decide +kernel
theorem dX1_whoMay_66 : decode cX1_whoMay 66 = .ok (.goto (-43), 3) := by decide +kernel
theorem dX1_whoMay_69 : decode cX1_whoMay 69 = .ok (.iload 4, 2) := by decide +kernel
theorem dX1_whoMay_71 : decode cX1_whoMay 71 = .ok (.ireturn, 1) := by decide +kernel
set_option maxRecDepth 20000 in
theorem ggX1_allMay_X1_whoMay : GoodIn wsX1_allMay wsX1_whoMay := goodIn_r _ [5, 6, 7, 8, 9, 10, 11, 12, 13, 14, 15, 16, 17, 18, 19, 20, 21, 22, 23, 24, 25, 26, 27, 28, 29, 30, 31, 32, 33, 34, 35, 36, 37, 38, 39, 40, 41, 42, 43, 44, 45, 46, 47, 48, 49, 50, 51, 52, 53, 54, 55, 56, 57, 58, 59] (by decide +kernel) (by decide +kernel)
set_option maxRecDepth 20000 in
theorem gX1_allMay_X1_whoMay : GoodIn wsX1_allMay (wsV RX1 104 RX1 yX1_whoMay wsX1_whoMay) := goodIn_app (goodIn_of _ (by decide +kernel)) ggX1_allMay_X1_whoMay
theorem dX1_allMay_0 : decode cX1_allMay 0 = .ok (.iload_n 1, 1) := by decide +kernel
theorem dX1_allMay_1 : decode cX1_allMay 1 = .ok (.aload_n 0, 1) := by decide +kernel
theorem dX1_allMay_2 : decode cX1_allMay 2 = .ok (.aload_n 2, 1) := by decide +kernel
theorem dX1_allMay_3 : decode cX1_allMay 3 = .ok (.invokevirtual 104, 3) := by decide +kernel
theorem dX1_allMay_6 : decode cX1_allMay 6 = .ok (.iconst (-1), 1) := by decide +kernel
theorem dX1_allMay_7 : decode cX1_allMay 7 = .ok (.ixor, 1) := by decide +kernel
theorem dX1_allMay_8 : decode cX1_allMay 8 = .ok (.iand, 1) := by decide +kernel
theorem dX1_allMay_9 : decode cX1_allMay 9 = .ok (.ifCond .ne 7, 3) := by decide +kernel
theorem dX1_allMay_12 : decode cX1_allMay 12 = .ok (.iconst 1, 1) := by decide +kernel
theorem dX1_allMay_13 : decode cX1_allMay 13 = .ok (.goto 4, 3) := by decide +kernel
theorem dX1_allMay_16 : decode cX1_allMay 16 = .ok (.iconst 0, 1) := by decide +kernel
theorem dX1_allMay_17 : decode cX1_allMay 17 = .ok (.ireturn, 1) := by decide +kernel
set_option maxRecDepth 20000 in
theorem ggX1_casksFor_X1_allMay : GoodIn wsX1_casksFor wsX1_allMay := goodIn_r _ [7, 8, 9, 10, 6, 11, 12, 13, 14, 15, 16, 17, 18, 19, 20, 21, 22, 23, 24, 25, 26, 27, 28, 29, 30, 31, 32, 33, 34, 35, 36, 37, 38, 39, 40, 41, 42, 43, 44, 45, 46, 47, 48, 49, 50, 51, 52, 53, 54, 55, 56, 57, 58, 59, 60, 61, 62, 63, 64, 65] (by decide +kernel) (by decide +kernel)
set_option maxRecDepth 20000 in
theorem gX1_casksFor_X1_allMay : GoodIn wsX1_casksFor (wsV RX1 108 RX1 yX1_allMay wsX1_allMay) := goodIn_app (goodIn_of _ (by decide +kernel)) ggX1_casksFor_X1_allMay
theorem dX1_casksFor_0 : decode cX1_casksFor 0 = .ok (.iconst 0, 1) := by decide +kernel
theorem dX1_casksFor_1 : decode cX1_casksFor 1 = .ok (.istore_n 2, 1) := by decide +kernel
theorem dX1_casksFor_2 : decode cX1_casksFor 2 = .ok (.iconst 0, 1) := by decide +kernel
theorem dX1_casksFor_3 : decode cX1_casksFor 3 = .ok (.istore_n 3, 1) := by decide +kernel
theorem dX1_casksFor_4 : decode cX1_casksFor 4 = .ok (.iload_n 3, 1) := by decide +kernel
theorem dX1_casksFor_5 : decode cX1_casksFor 5 = .ok (.aload_n 0, 1) := by decide +kernel
theorem dX1_casksFor_6 : decode cX1_casksFor 6 = .ok (.getfield 50, 3) := by decide +kernel
theorem dX1_casksFor_9 : decode cX1_casksFor 9 = .ok (.if_icmp .ge 31, 3) := by decide +kernel
theorem dX1_casksFor_12 : decode cX1_casksFor 12 = .ok (.aload_n 0, 1) := by decide +kernel
theorem dX1_casksFor_13 : decode cX1_casksFor 13 = .ok (.iconst 1, 1) := by decide +kernel
theorem dX1_casksFor_14 : decode cX1_casksFor 14 = .ok (.iload_n 1, 1) := by decide +kernel
theorem dX1_casksFor_15 : decode cX1_casksFor 15 = .ok (.ishl, 1) := by decide +kernel
theorem dX1_casksFor_16 : decode cX1_casksFor 16 = .ok (.aload_n 0, 1) := by decide +kernel
theorem dX1_casksFor_17 : decode cX1_casksFor 17 = .ok (.getfield 11, 3) := by decide +kernel
theorem dX1_casksFor_20 : decode cX1_casksFor 20 = .ok (.iload_n 3, 1) := by decide +kernel
theorem dX1_casksFor_21 : decode cX1_casksFor 21 = .ok (.aaload, 1) := by decide +kernel
theorem dX1_casksFor_22 : decode cX1_casksFor 22 = .ok (.invokevirtual 108, 3) := by decide +kernel
theorem dX1_casksFor_25 : decode cX1_casksFor 25 = .ok (.ifCond .eq 9, 3) := by decide +kernel
theorem dX1_casksFor_28 : decode cX1_casksFor 28 = .ok (.iload_n 2, 1) := by decide +kernel
theorem dX1_casksFor_29 : decode cX1_casksFor 29 = .ok (.iconst 1, 1) := by decide +kernel
theorem dX1_casksFor_30 : decode cX1_casksFor 30 = .ok (.iload_n 3, 1) := by decide +kernel
theorem dX1_casksFor_31 : decode cX1_casksFor 31 = .ok (.ishl, 1) := by decide +kernel
theorem dX1_casksFor_32 : decode cX1_casksFor 32 = .ok (.ior, 1) := by decide +kernel
theorem dX1_casksFor_33 : decode cX1_casksFor 33 = .ok (.istore_n 2, 1) := by decide +kernel
theorem dX1_casksFor_34 : decode cX1_casksFor 34 = .ok (.iinc 3 1, 3) := by decide +kernel
theorem dX1_casksFor_37 : decode cX1_casksFor 37 = .ok (.goto (-33), 3) := by decide +kernel
theorem dX1_casksFor_40 : decode cX1_casksFor 40 = .ok (.iload_n 2, 1) := by decide +kernel
theorem dX1_casksFor_41 : decode cX1_casksFor 41 = .ok (.ireturn, 1) := by decide +kernel
set_option maxRecDepth 20000 in
theorem ggX1_sip_X1_hasPerson : GoodIn wsX1_sip wsX1_hasPerson := goodIn_r _ [8, 9, 71, 72, 73, 74, 75, 76, 77, 78, 79, 80, 81] (by decide +kernel) (by decide +kernel)
set_option maxRecDepth 20000 in
theorem gX1_sip_X1_hasPerson : GoodIn wsX1_sip (wsV RX1 112 RX1 yX1_hasPerson wsX1_hasPerson) := goodIn_app (goodIn_of _ (by decide +kernel)) ggX1_sip_X1_hasPerson
set_option maxRecDepth 20000 in
theorem ggX1_sip_X1_hasCask : GoodIn wsX1_sip wsX1_hasCask := goodIn_r _ [13, 14, 71, 72, 73, 74, 75, 76, 77, 78, 79, 80, 81] (by decide +kernel) (by decide +kernel)
set_option maxRecDepth 20000 in
theorem gX1_sip_X1_hasCask : GoodIn wsX1_sip (wsV RX1 116 RX1 yX1_hasCask wsX1_hasCask) := goodIn_app (goodIn_of _ (by decide +kernel)) ggX1_sip_X1_hasCask
set_option maxRecDepth 20000 in
theorem ggX1_sip_X1_allMay : GoodIn wsX1_sip wsX1_allMay := goodIn_r _ [18, 19, 20, 21, 7, 22, 23, 9, 24, 25, 26, 27, 28, 29, 30, 31, 32, 33, 34, 35, 36, 37, 38, 39, 40, 41, 42, 43, 44, 45, 46, 47, 48, 49, 50, 51, 52, 53, 54, 55, 56, 57, 58, 59, 60, 61, 62, 71, 72, 73, 74, 75, 76, 77, 78, 79, 80, 81, 82, 83] (by decide +kernel) (by decide +kernel)
set_option maxRecDepth 20000 in
theorem gX1_sip_X1_allMay : GoodIn wsX1_sip (wsV RX1 108 RX1 yX1_allMay wsX1_allMay) := goodIn_app (goodIn_of _ (by decide +kernel)) ggX1_sip_X1_allMay
set_option maxRecDepth 20000 in
theorem ggX1_sip_X0_takeLatest : GoodIn wsX1_sip wsX0_takeLatest := goodIn_r _ [66, 32, 33, 34, 29, 35, 36, 67, 68, 69, 70, 31, 82, 83] (by decide +kernel) (by decide +kernel)
set_option maxRecDepth 20000 in
theorem gX1_sip_X0_takeLatest : GoodIn wsX1_sip (wsV RX1 119 RX0 yX0_takeLatest wsX0_takeLatest) := goodIn_app (goodIn_of _ (by decide +kernel)) ggX1_sip_X0_takeLatest
theorem dX1_sip_0 : decode cX1_sip 0 = .ok (.aload_n 0, 1) := by decide +kernel
theorem dX1_sip_1 : decode cX1_sip 1 = .ok (.iload_n 1, 1) := by decide +kernel
theorem dX1_sip_2 : decode cX1_sip 2 = .ok (.invokevirtual 112, 3) := by decide +kernel
theorem dX1_sip_5 : decode cX1_sip 5 = .ok (.ifCond .eq 23, 3) := by decide +kernel
theorem dX1_sip_8 : decode cX1_sip 8 = .ok (.aload_n 0, 1) := by decide +kernel
theorem dX1_sip_9 : decode cX1_sip 9 = .ok (.iload_n 2, 1) := by decide +kernel
theorem dX1_sip_10 : decode cX1_sip 10 = .ok (.invokevirtual 116, 3) := by decide +kernel
theorem dX1_sip_13 : decode cX1_sip 13 = .ok (.ifCond .eq 15, 3) := by decide +kernel
theorem dX1_sip_16 : decode cX1_sip 16 = .ok (.aload_n 0, 1) := by decide +kernel
theorem dX1_sip_17 : decode cX1_sip 17 = .ok (.getfield 11, 3) := by decide +kernel
theorem dX1_sip_20 : decode cX1_sip 20 = .ok (.iload_n 2, 1) := by decide +kernel
theorem dX1_sip_21 : decode cX1_sip 21 = .ok (.aaload, 1) := by decide +kernel
theorem dX1_sip_22 : decode cX1_sip 22 = .ok (.getfield 86, 3) := by decide +kernel
theorem dX1_sip_25 : decode cX1_sip 25 = .ok (.ifCond .ne 5, 3) := by decide +kernel
theorem dX1_sip_28 : decode cX1_sip 28 = .ok (.iconst 0, 1) := by decide +kernel
theorem dX1_sip_29 : decode cX1_sip 29 = .ok (.ireturn, 1) := by decide +kernel
theorem dX1_sip_30 : decode cX1_sip 30 = .ok (.aload_n 0, 1) := by decide +kernel
theorem dX1_sip_31 : decode cX1_sip 31 = .ok (.iconst 1, 1) := by decide +kernel
theorem dX1_sip_32 : decode cX1_sip 32 = .ok (.iload_n 1, 1) := by decide +kernel
theorem dX1_sip_33 : decode cX1_sip 33 = .ok (.ishl, 1) := by decide +kernel
theorem dX1_sip_34 : decode cX1_sip 34 = .ok (.aload_n 0, 1) := by decide +kernel
theorem dX1_sip_35 : decode cX1_sip 35 = .ok (.getfield 11, 3) := by decide +kernel
theorem dX1_sip_38 : decode cX1_sip 38 = .ok (.iload_n 2, 1) := by decide +kernel
theorem dX1_sip_39 : decode cX1_sip 39 = .ok (.aaload, 1) := by decide +kernel
theorem dX1_sip_40 : decode cX1_sip 40 = .ok (.invokevirtual 108, 3) := by decide +kernel
theorem dX1_sip_43 : decode cX1_sip 43 = .ok (.ifCond .eq 7, 3) := by decide +kernel
theorem dX1_sip_46 : decode cX1_sip 46 = .ok (.iconst 0, 1) := by decide +kernel
theorem dX1_sip_47 : decode cX1_sip 47 = .ok (.goto 4, 3) := by decide +kernel
theorem dX1_sip_50 : decode cX1_sip 50 = .ok (.iconst 1, 1) := by decide +kernel
theorem dX1_sip_51 : decode cX1_sip 51 = .ok (.istore_n 3, 1) := by decide +kernel
theorem dX1_sip_52 : decode cX1_sip 52 = .ok (.aload_n 0, 1) := by decide +kernel
theorem dX1_sip_53 : decode cX1_sip 53 = .ok (.getfield 24, 3) := by decide +kernel
theorem dX1_sip_56 : decode cX1_sip 56 = .ok (.iload_n 1, 1) := by decide +kernel
theorem dX1_sip_57 : decode cX1_sip 57 = .ok (.dup2, 1) := by decide +kernel
theorem dX1_sip_58 : decode cX1_sip 58 = .ok (.iaload, 1) := by decide +kernel
theorem dX1_sip_59 : decode cX1_sip 59 = .ok (.iload_n 3, 1) := by decide +kernel
theorem dX1_sip_60 : decode cX1_sip 60 = .ok (.iadd, 1) := by decide +kernel
theorem dX1_sip_61 : decode cX1_sip 61 = .ok (.iastore, 1) := by decide +kernel
theorem dX1_sip_62 : decode cX1_sip 62 = .ok (.aload_n 0, 1) := by decide +kernel
theorem dX1_sip_63 : decode cX1_sip 63 = .ok (.getfield 11, 3) := by decide +kernel
theorem dX1_sip_66 : decode cX1_sip 66 = .ok (.iload_n 2, 1) := by decide +kernel
theorem dX1_sip_67 : decode cX1_sip 67 = .ok (.aaload, 1) := by decide +kernel
theorem dX1_sip_68 : decode cX1_sip 68 = .ok (.invokevirtual 119, 3) := by decide +kernel
theorem dX1_sip_71 : decode cX1_sip 71 = .ok (.pop, 1) := by decide +kernel
theorem dX1_sip_72 : decode cX1_sip 72 = .ok (.iload_n 3, 1) := by decide +kernel
theorem dX1_sip_73 : decode cX1_sip 73 = .ok (.ireturn, 1) := by decide +kernel
set_option maxRecDepth 20000 in
theorem ggX1_seated_X1_whoMay : GoodIn wsX1_seated wsX1_whoMay := goodIn_r _ [12, 13, 14, 15, 16, 17, 18, 19, 20, 21, 22, 23, 24, 25, 26, 27, 28, 29, 30, 31, 32, 33, 34, 35, 36, 37, 38, 39, 40, 41, 42, 43, 44, 45, 46, 47, 48, 49, 50, 51, 52, 53, 59, 60, 61, 62, 63, 64, 65, 66, 67, 68, 69, 70, 71] (by decide +kernel) (by decide +kernel)
set_option maxRecDepth 20000 in
theorem gX1_seated_X1_whoMay : GoodIn wsX1_seated (wsV RX1 104 RX1 yX1_whoMay wsX1_whoMay) := goodIn_app (goodIn_of _ (by decide +kernel)) ggX1_seated_X1_whoMay
set_option maxRecDepth 20000 in
theorem ggX1_seated_J6_bitCount_0f7a4 : GoodIn wsX1_seated wsJ6_bitCount_0f7a4 := goodIn_r _ [47, 48, 49, 50] (by decide +kernel) (by decide +kernel)
set_option maxRecDepth 20000 in
theorem gX1_seated_J6_bitCount_0f7a4 : GoodIn wsX1_seated (va_wsS RX1 95 yJ6_bitCount_0f7a4 wsJ6_bitCount_0f7a4) := goodIn_app (goodIn_of _ (by decide +kernel)) ggX1_seated_J6_bitCount_0f7a4
set_option maxRecDepth 20000 in
theorem ggX1_seated_X1_boundBy : GoodIn wsX1_seated wsX1_boundBy := goodIn_r _ [57, 1, 3, 58, 2, 44, 45, 46, 47, 48, 49, 50, 59, 60, 61, 62, 63, 64, 65, 66, 67, 68, 69, 70, 71] (by decide +kernel) (by decide +kernel)
set_option maxRecDepth 20000 in
theorem gX1_seated_X1_boundBy : GoodIn wsX1_seated (wsV RX1 122 RX1 yX1_boundBy wsX1_boundBy) := goodIn_app (goodIn_of _ (by decide +kernel)) ggX1_seated_X1_boundBy
theorem dX1_seated_0 : decode cX1_seated 0 = .ok (.iconst 0, 1) := by decide +kernel
theorem dX1_seated_1 : decode cX1_seated 1 = .ok (.istore_n 2, 1) := by decide +kernel
theorem dX1_seated_2 : decode cX1_seated 2 = .ok (.iload_n 2, 1) := by decide +kernel
theorem dX1_seated_3 : decode cX1_seated 3 = .ok (.aload_n 0, 1) := by decide +kernel
theorem dX1_seated_4 : decode cX1_seated 4 = .ok (.getfield 50, 3) := by decide +kernel
theorem dX1_seated_7 : decode cX1_seated 7 = .ok (.if_icmp .ge 27, 3) := by decide +kernel
theorem dX1_seated_10 : decode cX1_seated 10 = .ok (.aload_n 0, 1) := by decide +kernel
theorem dX1_seated_11 : decode cX1_seated 11 = .ok (.getfield 30, 3) := by decide +kernel
theorem dX1_seated_14 : decode cX1_seated 14 = .ok (.iload_n 2, 1) := by decide +kernel
theorem dX1_seated_15 : decode cX1_seated 15 = .ok (.iload_n 1, 1) := by decide +kernel
theorem dX1_seated_16 : decode cX1_seated 16 = .ok (.aload_n 0, 1) := by decide +kernel
theorem dX1_seated_17 : decode cX1_seated 17 = .ok (.aload_n 0, 1) := by decide +kernel
theorem dX1_seated_18 : decode cX1_seated 18 = .ok (.getfield 11, 3) := by decide +kernel
theorem dX1_seated_21 : decode cX1_seated 21 = .ok (.iload_n 2, 1) := by decide +kernel
theorem dX1_seated_22 : decode cX1_seated 22 = .ok (.aaload, 1) := by decide +kernel
theorem dX1_seated_23 : decode cX1_seated 23 = .ok (.invokevirtual 104, 3) := by decide +kernel
theorem dX1_seated_26 : decode cX1_seated 26 = .ok (.iand, 1) := by decide +kernel
theorem dX1_seated_27 : decode cX1_seated 27 = .ok (.iastore, 1) := by decide +kernel
theorem dX1_seated_28 : decode cX1_seated 28 = .ok (.iinc 2 1, 3) := by decide +kernel
theorem dX1_seated_31 : decode cX1_seated 31 = .ok (.goto (-29), 3) := by decide +kernel
theorem dX1_seated_34 : decode cX1_seated 34 = .ok (.iload_n 1, 1) := by decide +kernel
theorem dX1_seated_35 : decode cX1_seated 35 = .ok (.invokestatic 95, 3) := by decide +kernel
theorem dX1_seated_38 : decode cX1_seated 38 = .ok (.istore_n 2, 1) := by decide +kernel
theorem dX1_seated_39 : decode cX1_seated 39 = .ok (.iconst 0, 1) := by decide +kernel
theorem dX1_seated_40 : decode cX1_seated 40 = .ok (.istore_n 3, 1) := by decide +kernel
theorem dX1_seated_41 : decode cX1_seated 41 = .ok (.iload_n 3, 1) := by decide +kernel
theorem dX1_seated_42 : decode cX1_seated 42 = .ok (.iconst 1, 1) := by decide +kernel
theorem dX1_seated_43 : decode cX1_seated 43 = .ok (.aload_n 0, 1) := by decide +kernel
theorem dX1_seated_44 : decode cX1_seated 44 = .ok (.getfield 50, 3) := by decide +kernel
theorem dX1_seated_47 : decode cX1_seated 47 = .ok (.ishl, 1) := by decide +kernel
theorem dX1_seated_48 : decode cX1_seated 48 = .ok (.if_icmp .ge 19, 3) := by decide +kernel
theorem dX1_seated_51 : decode cX1_seated 51 = .ok (.iload_n 2, 1) := by decide +kernel
theorem dX1_seated_52 : decode cX1_seated 52 = .ok (.aload_n 0, 1) := by decide +kernel
theorem dX1_seated_53 : decode cX1_seated 53 = .ok (.iload_n 3, 1) := by decide +kernel
theorem dX1_seated_54 : decode cX1_seated 54 = .ok (.invokevirtual 122, 3) := by decide +kernel
theorem dX1_seated_57 : decode cX1_seated 57 = .ok (.invokestatic 44, 3) := by decide +kernel
theorem dX1_seated_60 : decode cX1_seated 60 = .ok (.istore_n 2, 1) := by decide +kernel
theorem dX1_seated_61 : decode cX1_seated 61 = .ok (.iinc 3 1, 3) := by decide +kernel
theorem dX1_seated_64 : decode cX1_seated 64 = .ok (.goto (-23), 3) := by decide +kernel
theorem dX1_seated_67 : decode cX1_seated 67 = .ok (.iload_n 2, 1) := by decide +kernel
theorem dX1_seated_68 : decode cX1_seated 68 = .ok (.ireturn, 1) := by decide +kernel
set_option maxRecDepth 20000 in
theorem ggX1_boundBy_J6_bitCount_0f7a4 : GoodIn wsX1_boundBy wsJ6_bitCount_0f7a4 := goodIn_r _ [8, 9, 10, 11] (by decide +kernel) (by decide +kernel)
set_option maxRecDepth 20000 in
theorem gX1_boundBy_J6_bitCount_0f7a4 : GoodIn wsX1_boundBy (va_wsS RX1 95 yJ6_bitCount_0f7a4 wsJ6_bitCount_0f7a4) := goodIn_app (goodIn_of _ (by decide +kernel)) ggX1_boundBy_J6_bitCount_0f7a4
theorem dX1_boundBy_0 : decode cX1_boundBy 0 = .ok (.iconst 0, 1) := by decide +kernel
theorem dX1_boundBy_1 : decode cX1_boundBy 1 = .ok (.istore_n 2, 1) := by decide +kernel
theorem dX1_boundBy_2 : decode cX1_boundBy 2 = .ok (.iconst 0, 1) := by decide +kernel
theorem dX1_boundBy_3 : decode cX1_boundBy 3 = .ok (.istore_n 3, 1) := by decide +kernel
theorem dX1_boundBy_4 : decode cX1_boundBy 4 = .ok (.iconst 0, 1) := by decide +kernel
theorem dX1_boundBy_5 : decode cX1_boundBy 5 = .ok (.istore 4, 2) := by decide +kernel
theorem dX1_boundBy_7 : decode cX1_boundBy 7 = .ok (.iload 4, 2) := by decide +kernel
theorem dX1_boundBy_9 : decode cX1_boundBy 9 = .ok (.aload_n 0, 1) := by decide +kernel
theorem dX1_boundBy_10 : decode cX1_boundBy 10 = .ok (.getfield 50, 3) := by decide +kernel
theorem dX1_boundBy_13 : decode cX1_boundBy 13 = .ok (.if_icmp .ge 44, 3) := by decide +kernel
theorem dX1_boundBy_16 : decode cX1_boundBy 16 = .ok (.iload_n 1, 1) := by decide +kernel
theorem dX1_boundBy_17 : decode cX1_boundBy 17 = .ok (.iconst 1, 1) := by decide +kernel
theorem dX1_boundBy_18 : decode cX1_boundBy 18 = .ok (.iload 4, 2) := by decide +kernel
theorem dX1_boundBy_20 : decode cX1_boundBy 20 = .ok (.ishl, 1) := by decide +kernel
theorem dX1_boundBy_21 : decode cX1_boundBy 21 = .ok (.iand, 1) := by decide +kernel
theorem dX1_boundBy_22 : decode cX1_boundBy 22 = .ok (.ifCond .eq 19, 3) := by decide +kernel
theorem dX1_boundBy_25 : decode cX1_boundBy 25 = .ok (.iload_n 2, 1) := by decide +kernel
theorem dX1_boundBy_26 : decode cX1_boundBy 26 = .ok (.aload_n 0, 1) := by decide +kernel
theorem dX1_boundBy_27 : decode cX1_boundBy 27 = .ok (.getfield 11, 3) := by decide +kernel
theorem dX1_boundBy_30 : decode cX1_boundBy 30 = .ok (.iload 4, 2) := by decide +kernel
theorem dX1_boundBy_32 : decode cX1_boundBy 32 = .ok (.aaload, 1) := by decide +kernel
theorem dX1_boundBy_33 : decode cX1_boundBy 33 = .ok (.getfield 86, 3) := by decide +kernel
theorem dX1_boundBy_36 : decode cX1_boundBy 36 = .ok (.iadd, 1) := by decide +kernel
theorem dX1_boundBy_37 : decode cX1_boundBy 37 = .ok (.istore_n 2, 1) := by decide +kernel
theorem dX1_boundBy_38 : decode cX1_boundBy 38 = .ok (.goto 13, 3) := by decide +kernel
theorem dX1_boundBy_41 : decode cX1_boundBy 41 = .ok (.iload_n 3, 1) := by decide +kernel
theorem dX1_boundBy_42 : decode cX1_boundBy 42 = .ok (.aload_n 0, 1) := by decide +kernel
theorem dX1_boundBy_43 : decode cX1_boundBy 43 = .ok (.getfield 30, 3) := by decide +kernel
theorem dX1_boundBy_46 : decode cX1_boundBy 46 = .ok (.iload 4, 2) := by decide +kernel
theorem dX1_boundBy_48 : decode cX1_boundBy 48 = .ok (.iaload, 1) := by decide +kernel
theorem dX1_boundBy_49 : decode cX1_boundBy 49 = .ok (.ior, 1) := by decide +kernel
theorem dX1_boundBy_50 : decode cX1_boundBy 50 = .ok (.istore_n 3, 1) := by decide +kernel
theorem dX1_boundBy_51 : decode cX1_boundBy 51 = .ok (.iinc 4 1, 3) := by decide +kernel
theorem dX1_boundBy_54 : decode cX1_boundBy 54 = .ok (.goto (-47), 3) := by decide +kernel
theorem dX1_boundBy_57 : decode cX1_boundBy 57 = .ok (.iload_n 2, 1) := by decide +kernel
theorem dX1_boundBy_58 : decode cX1_boundBy 58 = .ok (.iload_n 3, 1) := by decide +kernel
theorem dX1_boundBy_59 : decode cX1_boundBy 59 = .ok (.invokestatic 95, 3) := by decide +kernel
theorem dX1_boundBy_62 : decode cX1_boundBy 62 = .ok (.iadd, 1) := by decide +kernel
theorem dX1_boundBy_63 : decode cX1_boundBy 63 = .ok (.ireturn, 1) := by decide +kernel
theorem dX1_noteTrial_0 : decode cX1_noteTrial 0 = .ok (.aload_n 0, 1) := by decide +kernel
theorem dX1_noteTrial_1 : decode cX1_noteTrial 1 = .ok (.getfield 77, 3) := by decide +kernel
theorem dX1_noteTrial_4 : decode cX1_noteTrial 4 = .ok (.bipush 8, 2) := by decide +kernel
theorem dX1_noteTrial_6 : decode cX1_noteTrial 6 = .ok (.if_icmp .ge 42, 3) := by decide +kernel
theorem dX1_noteTrial_9 : decode cX1_noteTrial 9 = .ok (.aload_n 0, 1) := by decide +kernel
theorem dX1_noteTrial_10 : decode cX1_noteTrial 10 = .ok (.getfield 27, 3) := by decide +kernel
theorem dX1_noteTrial_13 : decode cX1_noteTrial 13 = .ok (.aload_n 0, 1) := by decide +kernel
theorem dX1_noteTrial_14 : decode cX1_noteTrial 14 = .ok (.getfield 77, 3) := by decide +kernel
theorem dX1_noteTrial_17 : decode cX1_noteTrial 17 = .ok (.iload_n 1, 1) := by decide +kernel
theorem dX1_noteTrial_18 : decode cX1_noteTrial 18 = .ok (.iastore, 1) := by decide +kernel
theorem dX1_noteTrial_19 : decode cX1_noteTrial 19 = .ok (.iload_n 2, 1) := by decide +kernel
theorem dX1_noteTrial_20 : decode cX1_noteTrial 20 = .ok (.ifCond .eq 18, 3) := by decide +kernel
theorem dX1_noteTrial_23 : decode cX1_noteTrial 23 = .ok (.aload_n 0, 1) := by decide +kernel
theorem dX1_noteTrial_24 : decode cX1_noteTrial 24 = .ok (.dup, 1) := by decide +kernel
theorem dX1_noteTrial_25 : decode cX1_noteTrial 25 = .ok (.getfield 80, 3) := by decide +kernel
theorem dX1_noteTrial_28 : decode cX1_noteTrial 28 = .ok (.iconst 1, 1) := by decide +kernel
theorem dX1_noteTrial_29 : decode cX1_noteTrial 29 = .ok (.aload_n 0, 1) := by decide +kernel
theorem dX1_noteTrial_30 : decode cX1_noteTrial 30 = .ok (.getfield 77, 3) := by decide +kernel
theorem dX1_noteTrial_33 : decode cX1_noteTrial 33 = .ok (.ishl, 1) := by decide +kernel
theorem dX1_noteTrial_34 : decode cX1_noteTrial 34 = .ok (.ior, 1) := by decide +kernel
theorem dX1_noteTrial_35 : decode cX1_noteTrial 35 = .ok (.putfield 80, 3) := by decide +kernel
theorem dX1_noteTrial_38 : decode cX1_noteTrial 38 = .ok (.aload_n 0, 1) := by decide +kernel
theorem dX1_noteTrial_39 : decode cX1_noteTrial 39 = .ok (.dup, 1) := by decide +kernel
theorem dX1_noteTrial_40 : decode cX1_noteTrial 40 = .ok (.getfield 77, 3) := by decide +kernel
theorem dX1_noteTrial_43 : decode cX1_noteTrial 43 = .ok (.iconst 1, 1) := by decide +kernel
theorem dX1_noteTrial_44 : decode cX1_noteTrial 44 = .ok (.iadd, 1) := by decide +kernel
theorem dX1_noteTrial_45 : decode cX1_noteTrial 45 = .ok (.putfield 77, 3) := by decide +kernel
theorem dX1_noteTrial_48 : decode cX1_noteTrial 48 = .ok (.aload_n 0, 1) := by decide +kernel
theorem dX1_noteTrial_49 : decode cX1_noteTrial 49 = .ok (.getfield 77, 3) := by decide +kernel
theorem dX1_noteTrial_52 : decode cX1_noteTrial 52 = .ok (.ireturn, 1) := by decide +kernel
theorem dX1_dropTrials_0 : decode cX1_dropTrials 0 = .ok (.aload_n 0, 1) := by decide +kernel
theorem dX1_dropTrials_1 : decode cX1_dropTrials 1 = .ok (.getfield 77, 3) := by decide +kernel
theorem dX1_dropTrials_4 : decode cX1_dropTrials 4 = .ok (.istore_n 1, 1) := by decide +kernel
theorem dX1_dropTrials_5 : decode cX1_dropTrials 5 = .ok (.aload_n 0, 1) := by decide +kernel
theorem dX1_dropTrials_6 : decode cX1_dropTrials 6 = .ok (.iconst 0, 1) := by decide +kernel
theorem dX1_dropTrials_7 : decode cX1_dropTrials 7 = .ok (.putfield 77, 3) := by decide +kernel
theorem dX1_dropTrials_10 : decode cX1_dropTrials 10 = .ok (.aload_n 0, 1) := by decide +kernel
theorem dX1_dropTrials_11 : decode cX1_dropTrials 11 = .ok (.iconst 0, 1) := by decide +kernel
theorem dX1_dropTrials_12 : decode cX1_dropTrials 12 = .ok (.putfield 80, 3) := by decide +kernel
theorem dX1_dropTrials_15 : decode cX1_dropTrials 15 = .ok (.iload_n 1, 1) := by decide +kernel
theorem dX1_dropTrials_16 : decode cX1_dropTrials 16 = .ok (.ireturn, 1) := by decide +kernel
set_option maxRecDepth 20000 in
theorem ggX1_possibleBirths_X1_hasCask : GoodIn wsX1_possibleBirths wsX1_hasCask := goodIn_r _ [9, 10, 53, 54, 55, 56, 57, 58, 59, 60, 61, 62, 63] (by decide +kernel) (by decide +kernel)
set_option maxRecDepth 20000 in
theorem gX1_possibleBirths_X1_hasCask : GoodIn wsX1_possibleBirths (wsV RX1 116 RX1 yX1_hasCask wsX1_hasCask) := goodIn_app (goodIn_of _ (by decide +kernel)) ggX1_possibleBirths_X1_hasCask
set_option maxRecDepth 20000 in
theorem ggX1_possibleBirths_X1_birthsThatMay : GoodIn wsX1_possibleBirths wsX1_birthsThatMay := goodIn_r _ [14, 15, 16, 17, 18, 19, 20, 21, 22, 23, 24, 25, 26, 27, 28, 29, 30, 31, 32, 33, 34, 35, 36, 37, 38, 39, 40, 41, 42, 43, 44, 45, 46, 47, 48, 49, 50, 51, 52, 53, 54, 55, 56, 57, 58, 59, 60, 61, 62, 63, 64, 65] (by decide +kernel) (by decide +kernel)
set_option maxRecDepth 20000 in
theorem gX1_possibleBirths_X1_birthsThatMay : GoodIn wsX1_possibleBirths (wsV RX1 125 RX1 yX1_birthsThatMay wsX1_birthsThatMay) := goodIn_app (goodIn_of _ (by decide +kernel)) ggX1_possibleBirths_X1_birthsThatMay
theorem dX1_possibleBirths_0 : decode cX1_possibleBirths 0 = .ok (.sipush 1023, 3) := by decide +kernel
theorem dX1_possibleBirths_3 : decode cX1_possibleBirths 3 = .ok (.istore_n 2, 1) := by decide +kernel
theorem dX1_possibleBirths_4 : decode cX1_possibleBirths 4 = .ok (.iconst 0, 1) := by decide +kernel
theorem dX1_possibleBirths_5 : decode cX1_possibleBirths 5 = .ok (.istore_n 3, 1) := by decide +kernel
theorem dX1_possibleBirths_6 : decode cX1_possibleBirths 6 = .ok (.iload_n 3, 1) := by decide +kernel
theorem dX1_possibleBirths_7 : decode cX1_possibleBirths 7 = .ok (.aload_n 0, 1) := by decide +kernel
theorem dX1_possibleBirths_8 : decode cX1_possibleBirths 8 = .ok (.getfield 77, 3) := by decide +kernel
theorem dX1_possibleBirths_11 : decode cX1_possibleBirths 11 = .ok (.if_icmp .ge 79, 3) := by decide +kernel
theorem dX1_possibleBirths_14 : decode cX1_possibleBirths 14 = .ok (.aload_n 0, 1) := by decide +kernel
theorem dX1_possibleBirths_15 : decode cX1_possibleBirths 15 = .ok (.getfield 27, 3) := by decide +kernel
theorem dX1_possibleBirths_18 : decode cX1_possibleBirths 18 = .ok (.iload_n 3, 1) := by decide +kernel
theorem dX1_possibleBirths_19 : decode cX1_possibleBirths 19 = .ok (.iaload, 1) := by decide +kernel
theorem dX1_possibleBirths_20 : decode cX1_possibleBirths 20 = .ok (.istore 4, 2) := by decide +kernel
theorem dX1_possibleBirths_22 : decode cX1_possibleBirths 22 = .ok (.aload_n 0, 1) := by decide +kernel
theorem dX1_possibleBirths_23 : decode cX1_possibleBirths 23 = .ok (.iload 4, 2) := by decide +kernel
theorem dX1_possibleBirths_25 : decode cX1_possibleBirths 25 = .ok (.invokevirtual 116, 3) := by decide +kernel
theorem dX1_possibleBirths_28 : decode cX1_possibleBirths 28 = .ok (.ifCond .eq 18, 3) := by decide +kernel
theorem dX1_possibleBirths_31 : decode cX1_possibleBirths 31 = .ok (.aload_n 0, 1) := by decide +kernel
theorem dX1_possibleBirths_32 : decode cX1_possibleBirths 32 = .ok (.iload_n 1, 1) := by decide +kernel
theorem dX1_possibleBirths_33 : decode cX1_possibleBirths 33 = .ok (.aload_n 0, 1) := by decide +kernel
theorem dX1_possibleBirths_34 : decode cX1_possibleBirths 34 = .ok (.getfield 11, 3) := by decide +kernel
theorem dX1_possibleBirths_37 : decode cX1_possibleBirths 37 = .ok (.iload 4, 2) := by decide +kernel
theorem dX1_possibleBirths_39 : decode cX1_possibleBirths 39 = .ok (.aaload, 1) := by decide +kernel
theorem dX1_possibleBirths_40 : decode cX1_possibleBirths 40 = .ok (.invokevirtual 125, 3) := by decide +kernel
theorem dX1_possibleBirths_43 : decode cX1_possibleBirths 43 = .ok (.goto 4, 3) := by decide +kernel
theorem dX1_possibleBirths_46 : decode cX1_possibleBirths 46 = .ok (.iconst 0, 1) := by decide +kernel
theorem dX1_possibleBirths_47 : decode cX1_possibleBirths 47 = .ok (.istore 5, 2) := by decide +kernel
theorem dX1_possibleBirths_49 : decode cX1_possibleBirths 49 = .ok (.aload_n 0, 1) := by decide +kernel
theorem dX1_possibleBirths_50 : decode cX1_possibleBirths 50 = .ok (.getfield 80, 3) := by decide +kernel
theorem dX1_possibleBirths_53 : decode cX1_possibleBirths 53 = .ok (.iconst 1, 1) := by decide +kernel
theorem dX1_possibleBirths_54 : decode cX1_possibleBirths 54 = .ok (.iload_n 3, 1) := by decide +kernel
theorem dX1_possibleBirths_55 : decode cX1_possibleBirths 55 = .ok (.ishl, 1) := by decide +kernel
theorem dX1_possibleBirths_56 : decode cX1_possibleBirths 56 = .ok (.iand, 1) := by decide +kernel
theorem dX1_possibleBirths_57 : decode cX1_possibleBirths 57 = .ok (.ifCond .eq 7, 3) := by decide +kernel
theorem dX1_possibleBirths_60 : decode cX1_possibleBirths 60 = .ok (.iconst 1, 1) := by decide +kernel
theorem dX1_possibleBirths_61 : decode cX1_possibleBirths 61 = .ok (.goto 4, 3) := by decide +kernel
theorem dX1_possibleBirths_64 : decode cX1_possibleBirths 64 = .ok (.iconst 0, 1) := by decide +kernel
theorem dX1_possibleBirths_65 : decode cX1_possibleBirths 65 = .ok (.istore 6, 2) := by decide +kernel
theorem dX1_possibleBirths_67 : decode cX1_possibleBirths 67 = .ok (.iload_n 2, 1) := by decide +kernel
theorem dX1_possibleBirths_68 : decode cX1_possibleBirths 68 = .ok (.iload 6, 2) := by decide +kernel
theorem dX1_possibleBirths_70 : decode cX1_possibleBirths 70 = .ok (.ifCond .eq 10, 3) := by decide +kernel
theorem dX1_possibleBirths_73 : decode cX1_possibleBirths 73 = .ok (.iload 5, 2) := by decide +kernel
theorem dX1_possibleBirths_75 : decode cX1_possibleBirths 75 = .ok (.iconst (-1), 1) := by decide +kernel
theorem dX1_possibleBirths_76 : decode cX1_possibleBirths 76 = .ok (.ixor, 1) := by decide +kernel
theorem dX1_possibleBirths_77 : decode cX1_possibleBirths 77 = .ok (.goto 5, 3) := by decide +kernel
theorem dX1_possibleBirths_80 : decode cX1_possibleBirths 80 = .ok (.iload 5, 2) := by decide +kernel
theorem dX1_possibleBirths_82 : decode cX1_possibleBirths 82 = .ok (.iand, 1) := by decide +kernel
theorem dX1_possibleBirths_83 : decode cX1_possibleBirths 83 = .ok (.istore_n 2, 1) := by decide +kernel
theorem dX1_possibleBirths_84 : decode cX1_possibleBirths 84 = .ok (.iinc 3 1, 3) := by decide +kernel
theorem dX1_possibleBirths_87 : decode cX1_possibleBirths 87 = .ok (.goto (-81), 3) := by decide +kernel
theorem dX1_possibleBirths_90 : decode cX1_possibleBirths 90 = .ok (.iload_n 2, 1) := by decide +kernel
theorem dX1_possibleBirths_91 : decode cX1_possibleBirths 91 = .ok (.ireturn, 1) := by decide +kernel
set_option maxRecDepth 20000 in
theorem ggX1_birthsThatMay_X0_age : GoodIn wsX1_birthsThatMay wsX0_age := goodIn_r _ [6, 7, 8, 9, 10, 5, 11, 12, 13, 14, 15, 16, 17, 18, 19, 20, 21, 22, 23, 24, 50, 51] (by decide +kernel) (by decide +kernel)
set_option maxRecDepth 20000 in
theorem gX1_birthsThatMay_X0_age : GoodIn wsX1_birthsThatMay (wsV RX1 89 RX0 yX0_age wsX0_age) := goodIn_app (goodIn_of _ (by decide +kernel)) ggX1_birthsThatMay_X0_age
set_option maxRecDepth 20000 in
theorem ggX1_birthsThatMay_X0_yearBits : GoodIn wsX1_birthsThatMay wsX0_yearBits := goodIn_r _ [28, 12, 50, 51] (by decide +kernel) (by decide +kernel)
set_option maxRecDepth 20000 in
theorem gX1_birthsThatMay_X0_yearBits : GoodIn wsX1_birthsThatMay (wsV RX1 92 RX0 yX0_yearBits wsX0_yearBits) := goodIn_app (goodIn_of _ (by decide +kernel)) ggX1_birthsThatMay_X0_yearBits
set_option maxRecDepth 20000 in
theorem ggX1_birthsThatMay_J6_bitCount_0f7a4 : GoodIn wsX1_birthsThatMay wsJ6_bitCount_0f7a4 := goodIn_r _ [32, 33, 34, 35] (by decide +kernel) (by decide +kernel)
set_option maxRecDepth 20000 in
theorem gX1_birthsThatMay_J6_bitCount_0f7a4 : GoodIn wsX1_birthsThatMay (va_wsS RX1 95 yJ6_bitCount_0f7a4 wsJ6_bitCount_0f7a4) := goodIn_app (goodIn_of _ (by decide +kernel)) ggX1_birthsThatMay_J6_bitCount_0f7a4
set_option maxRecDepth 20000 in
theorem ggX1_birthsThatMay_X3_mayDrink : GoodIn wsX1_birthsThatMay wsX3_mayDrink := goodIn_r _ [38] (by decide +kernel) (by decide +kernel)
set_option maxRecDepth 20000 in
theorem gX1_birthsThatMay_X3_mayDrink_n100 : GoodIn wsX1_birthsThatMay (wsX3_mayDrink) := ggX1_birthsThatMay_X3_mayDrink
theorem dX1_birthsThatMay_0 : decode cX1_birthsThatMay 0 = .ok (.aload_n 2, 1) := by decide +kernel
theorem dX1_birthsThatMay_1 : decode cX1_birthsThatMay 1 = .ok (.aload_n 0, 1) := by decide +kernel
theorem dX1_birthsThatMay_2 : decode cX1_birthsThatMay 2 = .ok (.getfield 40, 3) := by decide +kernel
theorem dX1_birthsThatMay_5 : decode cX1_birthsThatMay 5 = .ok (.invokevirtual 89, 3) := by decide +kernel
theorem dX1_birthsThatMay_8 : decode cX1_birthsThatMay 8 = .ok (.istore_n 3, 1) := by decide +kernel
theorem dX1_birthsThatMay_9 : decode cX1_birthsThatMay 9 = .ok (.aload_n 2, 1) := by decide +kernel
theorem dX1_birthsThatMay_10 : decode cX1_birthsThatMay 10 = .ok (.invokevirtual 92, 3) := by decide +kernel
theorem dX1_birthsThatMay_13 : decode cX1_birthsThatMay 13 = .ok (.invokestatic 95, 3) := by decide +kernel
theorem dX1_birthsThatMay_16 : decode cX1_birthsThatMay 16 = .ok (.istore 4, 2) := by decide +kernel
theorem dX1_birthsThatMay_18 : decode cX1_birthsThatMay 18 = .ok (.iconst 0, 1) := by decide +kernel
theorem dX1_birthsThatMay_19 : decode cX1_birthsThatMay 19 = .ok (.istore 5, 2) := by decide +kernel
theorem dX1_birthsThatMay_21 : decode cX1_birthsThatMay 21 = .ok (.iconst 0, 1) := by decide +kernel
theorem dX1_birthsThatMay_22 : decode cX1_birthsThatMay 22 = .ok (.istore 6, 2) := by decide +kernel
theorem dX1_birthsThatMay_24 : decode cX1_birthsThatMay 24 = .ok (.iload 6, 2) := by decide +kernel
theorem dX1_birthsThatMay_26 : decode cX1_birthsThatMay 26 = .ok (.bipush 10, 2) := by decide +kernel
theorem dX1_birthsThatMay_28 : decode cX1_birthsThatMay 28 = .ok (.if_icmp .ge 30, 3) := by decide +kernel
theorem dX1_birthsThatMay_31 : decode cX1_birthsThatMay 31 = .ok (.iload_n 1, 1) := by decide +kernel
theorem dX1_birthsThatMay_32 : decode cX1_birthsThatMay 32 = .ok (.iload 6, 2) := by decide +kernel
theorem dX1_birthsThatMay_34 : decode cX1_birthsThatMay 34 = .ok (.iload_n 3, 1) := by decide +kernel
theorem dX1_birthsThatMay_35 : decode cX1_birthsThatMay 35 = .ok (.iload 4, 2) := by decide +kernel
theorem dX1_birthsThatMay_37 : decode cX1_birthsThatMay 37 = .ok (.invokestatic 100, 3) := by decide +kernel
theorem dX1_birthsThatMay_40 : decode cX1_birthsThatMay 40 = .ok (.ifCond .eq 12, 3) := by decide +kernel
theorem dX1_birthsThatMay_43 : decode cX1_birthsThatMay 43 = .ok (.iload 5, 2) := by decide +kernel
theorem dX1_birthsThatMay_45 : decode cX1_birthsThatMay 45 = .ok (.iconst 1, 1) := by decide +kernel
theorem dX1_birthsThatMay_46 : decode cX1_birthsThatMay 46 = .ok (.iload 6, 2) := by decide +kernel
theorem dX1_birthsThatMay_48 : decode cX1_birthsThatMay 48 = .ok (.ishl, 1) := by decide +kernel
theorem dX1_birthsThatMay_49 : decode cX1_birthsThatMay 49 = .ok (.ior, 1) := by decide +kernel
theorem dX1_birthsThatMay_50 : decode cX1_birthsThatMay 50 = .ok (.istore 5, 2) := by decide +kernel
theorem dX1_birthsThatMay_52 : decode cX1_birthsThatMay 52 = .ok (.iinc 6 1, 3) := by decide +kernel
theorem dX1_birthsThatMay_55 : decode cX1_birthsThatMay 55 = .ok (.goto (-31), 3) := by decide +kernel
theorem dX1_birthsThatMay_58 : decode cX1_birthsThatMay 58 = .ok (.iload 5, 2) := by decide +kernel
theorem dX1_birthsThatMay_60 : decode cX1_birthsThatMay 60 = .ok (.ireturn, 1) := by decide +kernel
set_option maxRecDepth 20000 in
theorem ggX1_bestQuestion_X1_possibleBirths : GoodIn wsX1_bestQuestion wsX1_possibleBirths := goodIn_r _ [8, 9, 10, 2, 11, 12, 13, 14, 7, 15, 1, 16, 17, 18, 19, 20, 21, 22, 23, 24, 25, 26, 27, 28, 29, 30, 31, 32, 33, 34, 35, 36, 37, 38, 39, 40, 41, 42, 43, 44, 45, 46, 47, 48, 49, 50, 51, 52, 53, 54, 55, 56, 57, 65, 66, 67, 68, 69, 70, 71, 72, 73, 74, 75, 76, 77] (by decide +kernel) (by decide +kernel)
set_option maxRecDepth 20000 in
theorem gX1_bestQuestion_X1_possibleBirths : GoodIn wsX1_bestQuestion (wsV RX1 129 RX1 yX1_possibleBirths wsX1_possibleBirths) := goodIn_app (goodIn_of _ (by decide +kernel)) ggX1_bestQuestion_X1_possibleBirths
set_option maxRecDepth 20000 in
theorem ggX1_bestQuestion_X1_birthsThatMay : GoodIn wsX1_bestQuestion wsX1_birthsThatMay := goodIn_r _ [19, 20, 21, 22, 23, 24, 25, 26, 27, 28, 29, 30, 31, 32, 33, 34, 35, 36, 37, 38, 39, 40, 41, 42, 43, 44, 45, 46, 47, 48, 49, 50, 51, 52, 53, 54, 55, 56, 57, 65, 66, 67, 68, 69, 70, 71, 72, 73, 74, 75, 76, 77] (by decide +kernel) (by decide +kernel)
set_option maxRecDepth 20000 in
theorem gX1_bestQuestion_X1_birthsThatMay : GoodIn wsX1_bestQuestion (wsV RX1 125 RX1 yX1_birthsThatMay wsX1_birthsThatMay) := goodIn_app (goodIn_of _ (by decide +kernel)) ggX1_bestQuestion_X1_birthsThatMay
set_option maxRecDepth 20000 in
theorem ggX1_bestQuestion_X1_leftAtWorst : GoodIn wsX1_bestQuestion wsX1_leftAtWorst := goodIn_r _ [60, 61, 62, 63, 64, 48, 49, 50, 51, 52, 53, 54] (by decide +kernel) (by decide +kernel)
set_option maxRecDepth 20000 in
theorem gX1_bestQuestion_X1_leftAtWorst : GoodIn wsX1_bestQuestion (va_wsS RX1 132 yX1_leftAtWorst wsX1_leftAtWorst) := goodIn_app (goodIn_of _ (by decide +kernel)) ggX1_bestQuestion_X1_leftAtWorst
theorem dX1_bestQuestion_0 : decode cX1_bestQuestion 0 = .ok (.aload_n 0, 1) := by decide +kernel
theorem dX1_bestQuestion_1 : decode cX1_bestQuestion 1 = .ok (.iload_n 1, 1) := by decide +kernel
theorem dX1_bestQuestion_2 : decode cX1_bestQuestion 2 = .ok (.invokevirtual 129, 3) := by decide +kernel
theorem dX1_bestQuestion_5 : decode cX1_bestQuestion 5 = .ok (.istore_n 2, 1) := by decide +kernel
theorem dX1_bestQuestion_6 : decode cX1_bestQuestion 6 = .ok (.iload_n 2, 1) := by decide +kernel
theorem dX1_bestQuestion_7 : decode cX1_bestQuestion 7 = .ok (.ifCond .ne 5, 3) := by decide +kernel
theorem dX1_bestQuestion_10 : decode cX1_bestQuestion 10 = .ok (.iconst (-1), 1) := by decide +kernel
theorem dX1_bestQuestion_11 : decode cX1_bestQuestion 11 = .ok (.ireturn, 1) := by decide +kernel
theorem dX1_bestQuestion_12 : decode cX1_bestQuestion 12 = .ok (.iconst (-1), 1) := by decide +kernel
theorem dX1_bestQuestion_13 : decode cX1_bestQuestion 13 = .ok (.istore_n 3, 1) := by decide +kernel
theorem dX1_bestQuestion_14 : decode cX1_bestQuestion 14 = .ok (.bipush 11, 2) := by decide +kernel
theorem dX1_bestQuestion_16 : decode cX1_bestQuestion 16 = .ok (.istore 4, 2) := by decide +kernel
theorem dX1_bestQuestion_18 : decode cX1_bestQuestion 18 = .ok (.iconst 0, 1) := by decide +kernel
theorem dX1_bestQuestion_19 : decode cX1_bestQuestion 19 = .ok (.istore 5, 2) := by decide +kernel
theorem dX1_bestQuestion_21 : decode cX1_bestQuestion 21 = .ok (.iload 5, 2) := by decide +kernel
theorem dX1_bestQuestion_23 : decode cX1_bestQuestion 23 = .ok (.aload_n 0, 1) := by decide +kernel
theorem dX1_bestQuestion_24 : decode cX1_bestQuestion 24 = .ok (.getfield 50, 3) := by decide +kernel
theorem dX1_bestQuestion_27 : decode cX1_bestQuestion 27 = .ok (.if_icmp .ge 54, 3) := by decide +kernel
theorem dX1_bestQuestion_30 : decode cX1_bestQuestion 30 = .ok (.iload_n 2, 1) := by decide +kernel
theorem dX1_bestQuestion_31 : decode cX1_bestQuestion 31 = .ok (.aload_n 0, 1) := by decide +kernel
theorem dX1_bestQuestion_32 : decode cX1_bestQuestion 32 = .ok (.iload_n 1, 1) := by decide +kernel
theorem dX1_bestQuestion_33 : decode cX1_bestQuestion 33 = .ok (.aload_n 0, 1) := by decide +kernel
theorem dX1_bestQuestion_34 : decode cX1_bestQuestion 34 = .ok (.getfield 11, 3) := by decide +kernel
theorem dX1_bestQuestion_37 : decode cX1_bestQuestion 37 = .ok (.iload 5, 2) := by decide +kernel
theorem dX1_bestQuestion_39 : decode cX1_bestQuestion 39 = .ok (.aaload, 1) := by decide +kernel
theorem dX1_bestQuestion_40 : decode cX1_bestQuestion 40 = .ok (.invokevirtual 125, 3) := by decide +kernel
theorem dX1_bestQuestion_43 : decode cX1_bestQuestion 43 = .ok (.invokestatic 132, 3) := by decide +kernel
theorem dX1_bestQuestion_46 : decode cX1_bestQuestion 46 = .ok (.istore 6, 2) := by decide +kernel
theorem dX1_bestQuestion_48 : decode cX1_bestQuestion 48 = .ok (.aload_n 0, 1) := by decide +kernel
theorem dX1_bestQuestion_49 : decode cX1_bestQuestion 49 = .ok (.getfield 11, 3) := by decide +kernel
theorem dX1_bestQuestion_52 : decode cX1_bestQuestion 52 = .ok (.iload 5, 2) := by decide +kernel
theorem dX1_bestQuestion_54 : decode cX1_bestQuestion 54 = .ok (.aaload, 1) := by decide +kernel
theorem dX1_bestQuestion_55 : decode cX1_bestQuestion 55 = .ok (.getfield 86, 3) := by decide +kernel
theorem dX1_bestQuestion_58 : decode cX1_bestQuestion 58 = .ok (.ifCond .le 17, 3) := by decide +kernel
theorem dX1_bestQuestion_61 : decode cX1_bestQuestion 61 = .ok (.iload 6, 2) := by decide +kernel
theorem dX1_bestQuestion_63 : decode cX1_bestQuestion 63 = .ok (.iload 4, 2) := by decide +kernel
theorem dX1_bestQuestion_65 : decode cX1_bestQuestion 65 = .ok (.if_icmp .ge 10, 3) := by decide +kernel
theorem dX1_bestQuestion_68 : decode cX1_bestQuestion 68 = .ok (.iload 5, 2) := by decide +kernel
theorem dX1_bestQuestion_70 : decode cX1_bestQuestion 70 = .ok (.istore_n 3, 1) := by decide +kernel
theorem dX1_bestQuestion_71 : decode cX1_bestQuestion 71 = .ok (.iload 6, 2) := by decide +kernel
theorem dX1_bestQuestion_73 : decode cX1_bestQuestion 73 = .ok (.istore 4, 2) := by decide +kernel
theorem dX1_bestQuestion_75 : decode cX1_bestQuestion 75 = .ok (.iinc 5 1, 3) := by decide +kernel
theorem dX1_bestQuestion_78 : decode cX1_bestQuestion 78 = .ok (.goto (-57), 3) := by decide +kernel
theorem dX1_bestQuestion_81 : decode cX1_bestQuestion 81 = .ok (.iload_n 3, 1) := by decide +kernel
theorem dX1_bestQuestion_82 : decode cX1_bestQuestion 82 = .ok (.ireturn, 1) := by decide +kernel
set_option maxRecDepth 20000 in
theorem ggX1_leftAtWorst_J6_bitCount_0f7a4 : GoodIn wsX1_leftAtWorst wsJ6_bitCount_0f7a4 := goodIn_r _ [8, 9, 10, 11] (by decide +kernel) (by decide +kernel)
set_option maxRecDepth 20000 in
theorem gX1_leftAtWorst_J6_bitCount_0f7a4 : GoodIn wsX1_leftAtWorst (va_wsS RX1 95 yJ6_bitCount_0f7a4 wsJ6_bitCount_0f7a4) := goodIn_app (goodIn_of _ (by decide +kernel)) ggX1_leftAtWorst_J6_bitCount_0f7a4
theorem dX1_leftAtWorst_0 : decode cX1_leftAtWorst 0 = .ok (.iload_n 0, 1) := by decide +kernel
theorem dX1_leftAtWorst_1 : decode cX1_leftAtWorst 1 = .ok (.iload_n 1, 1) := by decide +kernel
theorem dX1_leftAtWorst_2 : decode cX1_leftAtWorst 2 = .ok (.iand, 1) := by decide +kernel
theorem dX1_leftAtWorst_3 : decode cX1_leftAtWorst 3 = .ok (.invokestatic 95, 3) := by decide +kernel
theorem dX1_leftAtWorst_6 : decode cX1_leftAtWorst 6 = .ok (.iload_n 0, 1) := by decide +kernel
theorem dX1_leftAtWorst_7 : decode cX1_leftAtWorst 7 = .ok (.iload_n 1, 1) := by decide +kernel
theorem dX1_leftAtWorst_8 : decode cX1_leftAtWorst 8 = .ok (.iconst (-1), 1) := by decide +kernel
theorem dX1_leftAtWorst_9 : decode cX1_leftAtWorst 9 = .ok (.ixor, 1) := by decide +kernel
theorem dX1_leftAtWorst_10 : decode cX1_leftAtWorst 10 = .ok (.iand, 1) := by decide +kernel
theorem dX1_leftAtWorst_11 : decode cX1_leftAtWorst 11 = .ok (.invokestatic 95, 3) := by decide +kernel
theorem dX1_leftAtWorst_14 : decode cX1_leftAtWorst 14 = .ok (.invokestatic 135, 3) := by decide +kernel
theorem dX1_leftAtWorst_17 : decode cX1_leftAtWorst 17 = .ok (.ireturn, 1) := by decide +kernel
theorem dX2_init_0 : decode cX2_init 0 = .ok (.aload_n 0, 1) := by decide +kernel
theorem dX2_init_1 : decode cX2_init 1 = .ok (.invokespecial 1, 3) := by decide +kernel
theorem dX2_init_4 : decode cX2_init 4 = .ok (.aload_n 0, 1) := by decide +kernel
theorem dX2_init_5 : decode cX2_init 5 = .ok (.bipush 18, 2) := by decide +kernel
theorem dX2_init_7 : decode cX2_init 7 = .ok (.newarray .int, 2) := by decide +kernel
theorem dX2_init_9 : decode cX2_init 9 = .ok (.putfield 9, 3) := by decide +kernel
theorem dX2_init_12 : decode cX2_init 12 = .ok (.return_, 1) := by decide +kernel
theorem dX2_append_0 : decode cX2_append 0 = .ok (.aload_n 0, 1) := by decide +kernel
theorem dX2_append_1 : decode cX2_append 1 = .ok (.getfield 13, 3) := by decide +kernel
theorem dX2_append_4 : decode cX2_append 4 = .ok (.bipush 18, 2) := by decide +kernel
theorem dX2_append_6 : decode cX2_append 6 = .ok (.if_icmp .ge 23, 3) := by decide +kernel
theorem dX2_append_9 : decode cX2_append 9 = .ok (.aload_n 0, 1) := by decide +kernel
theorem dX2_append_10 : decode cX2_append 10 = .ok (.getfield 9, 3) := by decide +kernel
theorem dX2_append_13 : decode cX2_append 13 = .ok (.aload_n 0, 1) := by decide +kernel
theorem dX2_append_14 : decode cX2_append 14 = .ok (.getfield 13, 3) := by decide +kernel
theorem dX2_append_17 : decode cX2_append 17 = .ok (.iload_n 1, 1) := by decide +kernel
theorem dX2_append_18 : decode cX2_append 18 = .ok (.iastore, 1) := by decide +kernel
theorem dX2_append_19 : decode cX2_append 19 = .ok (.aload_n 0, 1) := by decide +kernel
theorem dX2_append_20 : decode cX2_append 20 = .ok (.dup, 1) := by decide +kernel
theorem dX2_append_21 : decode cX2_append 21 = .ok (.getfield 13, 3) := by decide +kernel
theorem dX2_append_24 : decode cX2_append 24 = .ok (.iconst 1, 1) := by decide +kernel
theorem dX2_append_25 : decode cX2_append 25 = .ok (.iadd, 1) := by decide +kernel
theorem dX2_append_26 : decode cX2_append 26 = .ok (.putfield 13, 3) := by decide +kernel
theorem dX2_append_29 : decode cX2_append 29 = .ok (.aload_n 0, 1) := by decide +kernel
theorem dX2_append_30 : decode cX2_append 30 = .ok (.getfield 13, 3) := by decide +kernel
theorem dX2_append_33 : decode cX2_append 33 = .ok (.ireturn, 1) := by decide +kernel
theorem dX2_clear_0 : decode cX2_clear 0 = .ok (.aload_n 0, 1) := by decide +kernel
theorem dX2_clear_1 : decode cX2_clear 1 = .ok (.getfield 13, 3) := by decide +kernel
theorem dX2_clear_4 : decode cX2_clear 4 = .ok (.istore_n 1, 1) := by decide +kernel
theorem dX2_clear_5 : decode cX2_clear 5 = .ok (.aload_n 0, 1) := by decide +kernel
theorem dX2_clear_6 : decode cX2_clear 6 = .ok (.iconst 0, 1) := by decide +kernel
theorem dX2_clear_7 : decode cX2_clear 7 = .ok (.putfield 13, 3) := by decide +kernel
theorem dX2_clear_10 : decode cX2_clear 10 = .ok (.iload_n 1, 1) := by decide +kernel
theorem dX2_clear_11 : decode cX2_clear 11 = .ok (.ireturn, 1) := by decide +kernel
set_option maxRecDepth 20000 in
theorem ggX2_firstFault_X2_fits : GoodIn wsX2_firstFault wsX2_fits := goodIn_r _ [6] (by decide +kernel) (by decide +kernel)
set_option maxRecDepth 20000 in
theorem gX2_firstFault_X2_fits : GoodIn wsX2_firstFault (va_wsS RX2 17 yX2_fits wsX2_fits) := goodIn_app (goodIn_of _ (by decide +kernel)) ggX2_firstFault_X2_fits
theorem dX2_firstFault_0 : decode cX2_firstFault 0 = .ok (.iconst 0, 1) := by decide +kernel
theorem dX2_firstFault_1 : decode cX2_firstFault 1 = .ok (.istore_n 1, 1) := by decide +kernel
theorem dX2_firstFault_2 : decode cX2_firstFault 2 = .ok (.iload_n 1, 1) := by decide +kernel
theorem dX2_firstFault_3 : decode cX2_firstFault 3 = .ok (.aload_n 0, 1) := by decide +kernel
theorem dX2_firstFault_4 : decode cX2_firstFault 4 = .ok (.getfield 13, 3) := by decide +kernel
theorem dX2_firstFault_7 : decode cX2_firstFault 7 = .ok (.if_icmp .ge 24, 3) := by decide +kernel
theorem dX2_firstFault_10 : decode cX2_firstFault 10 = .ok (.iload_n 1, 1) := by decide +kernel
theorem dX2_firstFault_11 : decode cX2_firstFault 11 = .ok (.aload_n 0, 1) := by decide +kernel
theorem dX2_firstFault_12 : decode cX2_firstFault 12 = .ok (.getfield 9, 3) := by decide +kernel
theorem dX2_firstFault_15 : decode cX2_firstFault 15 = .ok (.iload_n 1, 1) := by decide +kernel
theorem dX2_firstFault_16 : decode cX2_firstFault 16 = .ok (.iaload, 1) := by decide +kernel
theorem dX2_firstFault_17 : decode cX2_firstFault 17 = .ok (.invokestatic 17, 3) := by decide +kernel
theorem dX2_firstFault_20 : decode cX2_firstFault 20 = .ok (.ifCond .ne 5, 3) := by decide +kernel
theorem dX2_firstFault_23 : decode cX2_firstFault 23 = .ok (.iload_n 1, 1) := by decide +kernel
theorem dX2_firstFault_24 : decode cX2_firstFault 24 = .ok (.ireturn, 1) := by decide +kernel
theorem dX2_firstFault_25 : decode cX2_firstFault 25 = .ok (.iinc 1 1, 3) := by decide +kernel
theorem dX2_firstFault_28 : decode cX2_firstFault 28 = .ok (.goto (-26), 3) := by decide +kernel
theorem dX2_firstFault_31 : decode cX2_firstFault 31 = .ok (.aload_n 0, 1) := by decide +kernel
theorem dX2_firstFault_32 : decode cX2_firstFault 32 = .ok (.getfield 13, 3) := by decide +kernel
theorem dX2_firstFault_35 : decode cX2_firstFault 35 = .ok (.ireturn, 1) := by decide +kernel
theorem dX2_fits_0 : decode cX2_fits 0 = .ok (.iload_n 0, 1) := by decide +kernel
theorem dX2_fits_1 : decode cX2_fits 1 = .ok (.ifCond .ne 21, 3) := by decide +kernel
theorem dX2_fits_4 : decode cX2_fits 4 = .ok (.iload_n 1, 1) := by decide +kernel
theorem dX2_fits_5 : decode cX2_fits 5 = .ok (.bipush 48, 2) := by decide +kernel
theorem dX2_fits_7 : decode cX2_fits 7 = .ok (.if_icmp .lt 13, 3) := by decide +kernel
theorem dX2_fits_10 : decode cX2_fits 10 = .ok (.iload_n 1, 1) := by decide +kernel
theorem dX2_fits_11 : decode cX2_fits 11 = .ok (.bipush 51, 2) := by decide +kernel
theorem dX2_fits_13 : decode cX2_fits 13 = .ok (.if_icmp .gt 7, 3) := by decide +kernel
theorem dX2_fits_16 : decode cX2_fits 16 = .ok (.iconst 1, 1) := by decide +kernel
theorem dX2_fits_17 : decode cX2_fits 17 = .ok (.goto 4, 3) := by decide +kernel
theorem dX2_fits_20 : decode cX2_fits 20 = .ok (.iconst 0, 1) := by decide +kernel
theorem dX2_fits_21 : decode cX2_fits 21 = .ok (.ireturn, 1) := by decide +kernel
theorem dX2_fits_22 : decode cX2_fits 22 = .ok (.iload_n 0, 1) := by decide +kernel
theorem dX2_fits_23 : decode cX2_fits 23 = .ok (.iconst 1, 1) := by decide +kernel
theorem dX2_fits_24 : decode cX2_fits 24 = .ok (.if_icmp .ne 15, 3) := by decide +kernel
theorem dX2_fits_27 : decode cX2_fits 27 = .ok (.iload_n 1, 1) := by decide +kernel
theorem dX2_fits_28 : decode cX2_fits 28 = .ok (.bipush 59, 2) := by decide +kernel
theorem dX2_fits_30 : decode cX2_fits 30 = .ok (.if_icmp .ne 7, 3) := by decide +kernel
theorem dX2_fits_33 : decode cX2_fits 33 = .ok (.iconst 1, 1) := by decide +kernel
theorem dX2_fits_34 : decode cX2_fits 34 = .ok (.goto 4, 3) := by decide +kernel
theorem dX2_fits_37 : decode cX2_fits 37 = .ok (.iconst 0, 1) := by decide +kernel
theorem dX2_fits_38 : decode cX2_fits 38 = .ok (.ireturn, 1) := by decide +kernel
theorem dX2_fits_39 : decode cX2_fits 39 = .ok (.iload_n 0, 1) := by decide +kernel
theorem dX2_fits_40 : decode cX2_fits 40 = .ok (.bipush 16, 2) := by decide +kernel
theorem dX2_fits_42 : decode cX2_fits 42 = .ok (.if_icmp .lt 5, 3) := by decide +kernel
theorem dX2_fits_45 : decode cX2_fits 45 = .ok (.iconst 0, 1) := by decide +kernel
theorem dX2_fits_46 : decode cX2_fits 46 = .ok (.ireturn, 1) := by decide +kernel
theorem dX2_fits_47 : decode cX2_fits 47 = .ok (.iload_n 0, 1) := by decide +kernel
theorem dX2_fits_48 : decode cX2_fits 48 = .ok (.iconst 3, 1) := by decide +kernel
theorem dX2_fits_49 : decode cX2_fits 49 = .ok (.irem, 1) := by decide +kernel
theorem dX2_fits_50 : decode cX2_fits 50 = .ok (.iconst 1, 1) := by decide +kernel
theorem dX2_fits_51 : decode cX2_fits 51 = .ok (.if_icmp .ne 17, 3) := by decide +kernel
theorem dX2_fits_54 : decode cX2_fits 54 = .ok (.iload_n 1, 1) := by decide +kernel
theorem dX2_fits_55 : decode cX2_fits 55 = .ok (.bipush 44, 2) := by decide +kernel
theorem dX2_fits_57 : decode cX2_fits 57 = .ok (.if_icmp .ne 7, 3) := by decide +kernel
theorem dX2_fits_60 : decode cX2_fits 60 = .ok (.iconst 1, 1) := by decide +kernel
theorem dX2_fits_61 : decode cX2_fits 61 = .ok (.goto 24, 3) := by decide +kernel
theorem dX2_fits_64 : decode cX2_fits 64 = .ok (.iconst 0, 1) := by decide +kernel
theorem dX2_fits_65 : decode cX2_fits 65 = .ok (.goto 20, 3) := by decide +kernel
theorem dX2_fits_68 : decode cX2_fits 68 = .ok (.iload_n 1, 1) := by decide +kernel
theorem dX2_fits_69 : decode cX2_fits 69 = .ok (.bipush 48, 2) := by decide +kernel
theorem dX2_fits_71 : decode cX2_fits 71 = .ok (.if_icmp .lt 13, 3) := by decide +kernel
theorem dX2_fits_74 : decode cX2_fits 74 = .ok (.iload_n 1, 1) := by decide +kernel
theorem dX2_fits_75 : decode cX2_fits 75 = .ok (.bipush 57, 2) := by decide +kernel
theorem dX2_fits_77 : decode cX2_fits 77 = .ok (.if_icmp .gt 7, 3) := by decide +kernel
theorem dX2_fits_80 : decode cX2_fits 80 = .ok (.iconst 1, 1) := by decide +kernel
theorem dX2_fits_81 : decode cX2_fits 81 = .ok (.goto 4, 3) := by decide +kernel
theorem dX2_fits_84 : decode cX2_fits 84 = .ok (.iconst 0, 1) := by decide +kernel
theorem dX2_fits_85 : decode cX2_fits 85 = .ok (.ireturn, 1) := by decide +kernel
set_option maxRecDepth 20000 in
theorem ggX2_casksWritten_X2_firstFault : GoodIn wsX2_casksWritten wsX2_firstFault := goodIn_r _ [6, 1, 7, 8, 9, 5, 10, 11, 12] (by decide +kernel) (by decide +kernel)
set_option maxRecDepth 20000 in
theorem gX2_casksWritten_X2_firstFault : GoodIn wsX2_casksWritten (wsV RX2 21 RX2 yX2_firstFault wsX2_firstFault) := goodIn_app (goodIn_of _ (by decide +kernel)) ggX2_casksWritten_X2_firstFault
theorem dX2_casksWritten_0 : decode cX2_casksWritten 0 = .ok (.aload_n 0, 1) := by decide +kernel
theorem dX2_casksWritten_1 : decode cX2_casksWritten 1 = .ok (.getfield 13, 3) := by decide +kernel
theorem dX2_casksWritten_4 : decode cX2_casksWritten 4 = .ok (.bipush 7, 2) := by decide +kernel
theorem dX2_casksWritten_6 : decode cX2_casksWritten 6 = .ok (.if_icmp .lt 28, 3) := by decide +kernel
theorem dX2_casksWritten_9 : decode cX2_casksWritten 9 = .ok (.aload_n 0, 1) := by decide +kernel
theorem dX2_casksWritten_10 : decode cX2_casksWritten 10 = .ok (.getfield 13, 3) := by decide +kernel
theorem dX2_casksWritten_13 : decode cX2_casksWritten 13 = .ok (.iconst 3, 1) := by decide +kernel
theorem dX2_casksWritten_14 : decode cX2_casksWritten 14 = .ok (.irem, 1) := by decide +kernel
theorem dX2_casksWritten_15 : decode cX2_casksWritten 15 = .ok (.iconst 1, 1) := by decide +kernel
theorem dX2_casksWritten_16 : decode cX2_casksWritten 16 = .ok (.if_icmp .ne 18, 3) := by decide +kernel
theorem dX2_casksWritten_19 : decode cX2_casksWritten 19 = .ok (.aload_n 0, 1) := by decide +kernel
theorem dX2_casksWritten_20 : decode cX2_casksWritten 20 = .ok (.invokevirtual 21, 3) := by decide +kernel
theorem dX2_casksWritten_23 : decode cX2_casksWritten 23 = .ok (.aload_n 0, 1) := by decide +kernel
theorem dX2_casksWritten_24 : decode cX2_casksWritten 24 = .ok (.getfield 13, 3) := by decide +kernel
theorem dX2_casksWritten_27 : decode cX2_casksWritten 27 = .ok (.if_icmp .ne 7, 3) := by decide +kernel
theorem dX2_casksWritten_30 : decode cX2_casksWritten 30 = .ok (.iconst 1, 1) := by decide +kernel
theorem dX2_casksWritten_31 : decode cX2_casksWritten 31 = .ok (.goto 4, 3) := by decide +kernel
theorem dX2_casksWritten_34 : decode cX2_casksWritten 34 = .ok (.iconst 0, 1) := by decide +kernel
theorem dX2_casksWritten_35 : decode cX2_casksWritten 35 = .ok (.istore_n 1, 1) := by decide +kernel
theorem dX2_casksWritten_36 : decode cX2_casksWritten 36 = .ok (.iload_n 1, 1) := by decide +kernel
theorem dX2_casksWritten_37 : decode cX2_casksWritten 37 = .ok (.ifCond .eq 12, 3) := by decide +kernel
theorem dX2_casksWritten_40 : decode cX2_casksWritten 40 = .ok (.aload_n 0, 1) := by decide +kernel
theorem dX2_casksWritten_41 : decode cX2_casksWritten 41 = .ok (.getfield 13, 3) := by decide +kernel
theorem dX2_casksWritten_44 : decode cX2_casksWritten 44 = .ok (.iconst 3, 1) := by decide +kernel
theorem dX2_casksWritten_45 : decode cX2_casksWritten 45 = .ok (.idiv, 1) := by decide +kernel
theorem dX2_casksWritten_46 : decode cX2_casksWritten 46 = .ok (.goto 4, 3) := by decide +kernel
theorem dX2_casksWritten_49 : decode cX2_casksWritten 49 = .ok (.iconst 0, 1) := by decide +kernel
theorem dX2_casksWritten_50 : decode cX2_casksWritten 50 = .ok (.ireturn, 1) := by decide +kernel
theorem dX2_digitAt_0 : decode cX2_digitAt 0 = .ok (.iload_n 1, 1) := by decide +kernel
theorem dX2_digitAt_1 : decode cX2_digitAt 1 = .ok (.ifCond .lt 23, 3) := by decide +kernel
theorem dX2_digitAt_4 : decode cX2_digitAt 4 = .ok (.iload_n 1, 1) := by decide +kernel
theorem dX2_digitAt_5 : decode cX2_digitAt 5 = .ok (.aload_n 0, 1) := by decide +kernel
theorem dX2_digitAt_6 : decode cX2_digitAt 6 = .ok (.getfield 13, 3) := by decide +kernel
theorem dX2_digitAt_9 : decode cX2_digitAt 9 = .ok (.if_icmp .ge 15, 3) := by decide +kernel
theorem dX2_digitAt_12 : decode cX2_digitAt 12 = .ok (.aload_n 0, 1) := by decide +kernel
theorem dX2_digitAt_13 : decode cX2_digitAt 13 = .ok (.getfield 9, 3) := by decide +kernel
theorem dX2_digitAt_16 : decode cX2_digitAt 16 = .ok (.iload_n 1, 1) := by decide +kernel
theorem dX2_digitAt_17 : decode cX2_digitAt 17 = .ok (.iaload, 1) := by decide +kernel
theorem dX2_digitAt_18 : decode cX2_digitAt 18 = .ok (.bipush 48, 2) := by decide +kernel
theorem dX2_digitAt_20 : decode cX2_digitAt 20 = .ok (.isub, 1) := by decide +kernel
theorem dX2_digitAt_21 : decode cX2_digitAt 21 = .ok (.goto 4, 3) := by decide +kernel
theorem dX2_digitAt_24 : decode cX2_digitAt 24 = .ok (.iconst 0, 1) := by decide +kernel
theorem dX2_digitAt_25 : decode cX2_digitAt 25 = .ok (.ireturn, 1) := by decide +kernel
set_option maxRecDepth 20000 in
theorem ggX3_init_X2_init : GoodIn wsX3_init wsX2_init := goodIn_r _ [22, 23, 2, 3, 24, 25, 41, 42] (by decide +kernel) (by decide +kernel)
set_option maxRecDepth 20000 in
theorem gX3_init_X2_init_n11 : GoodIn wsX3_init (wsX2_init) := ggX3_init_X2_init
set_option maxRecDepth 20000 in
theorem ggX3_init_X1_init : GoodIn wsX3_init wsX1_init := goodIn_r _ [28, 29, 2, 3, 30, 31, 24, 32, 33, 34, 35, 36, 15, 16, 37, 38, 39, 40, 51, 52, 53, 54, 55, 56, 57, 58, 59, 60, 61, 62, 63] (by decide +kernel) (by decide +kernel)
set_option maxRecDepth 20000 in
theorem gX3_init_X1_init : GoodIn wsX3_init (wsX1_init) := ggX3_init_X1_init
set_option maxRecDepth 20000 in
theorem ggX3_init_X0_init : GoodIn wsX3_init wsX0_init := goodIn_r _ [38, 39, 2, 3, 24, 40, 62, 63] (by decide +kernel) (by decide +kernel)
set_option maxRecDepth 20000 in
theorem gX3_init_X0_init_n31 : GoodIn wsX3_init (wsX0_init) := ggX3_init_X0_init
theorem dX3_init_0 : decode cX3_init 0 = .ok (.aload_n 0, 1) := by decide +kernel
theorem dX3_init_1 : decode cX3_init 1 = .ok (.invokespecial 3, 3) := by decide +kernel
theorem dX3_init_4 : decode cX3_init 4 = .ok (.aload_n 0, 1) := by decide +kernel
theorem dX3_init_5 : decode cX3_init 5 = .ok (.new 9, 3) := by decide +kernel
theorem dX3_init_8 : decode cX3_init 8 = .ok (.dup, 1) := by decide +kernel
theorem dX3_init_9 : decode cX3_init 9 = .ok (.invokespecial 11, 3) := by decide +kernel
theorem dX3_init_12 : decode cX3_init 12 = .ok (.putfield 12, 3) := by decide +kernel
theorem dX3_init_15 : decode cX3_init 15 = .ok (.aload_n 0, 1) := by decide +kernel
theorem dX3_init_16 : decode cX3_init 16 = .ok (.new 16, 3) := by decide +kernel
theorem dX3_init_19 : decode cX3_init 19 = .ok (.dup, 1) := by decide +kernel
theorem dX3_init_20 : decode cX3_init 20 = .ok (.invokespecial 18, 3) := by decide +kernel
theorem dX3_init_23 : decode cX3_init 23 = .ok (.putfield 19, 3) := by decide +kernel
theorem dX3_init_26 : decode cX3_init 26 = .ok (.aload_n 0, 1) := by decide +kernel
theorem dX3_init_27 : decode cX3_init 27 = .ok (.new 16, 3) := by decide +kernel
theorem dX3_init_30 : decode cX3_init 30 = .ok (.dup, 1) := by decide +kernel
theorem dX3_init_31 : decode cX3_init 31 = .ok (.invokespecial 18, 3) := by decide +kernel
theorem dX3_init_34 : decode cX3_init 34 = .ok (.putfield 23, 3) := by decide +kernel
theorem dX3_init_37 : decode cX3_init 37 = .ok (.aload_n 0, 1) := by decide +kernel
theorem dX3_init_38 : decode cX3_init 38 = .ok (.new 16, 3) := by decide +kernel
theorem dX3_init_41 : decode cX3_init 41 = .ok (.dup, 1) := by decide +kernel
theorem dX3_init_42 : decode cX3_init 42 = .ok (.invokespecial 18, 3) := by decide +kernel
theorem dX3_init_45 : decode cX3_init 45 = .ok (.putfield 26, 3) := by decide +kernel
theorem dX3_init_48 : decode cX3_init 48 = .ok (.aload_n 0, 1) := by decide +kernel
theorem dX3_init_49 : decode cX3_init 49 = .ok (.new 29, 3) := by decide +kernel
theorem dX3_init_52 : decode cX3_init 52 = .ok (.dup, 1) := by decide +kernel
theorem dX3_init_53 : decode cX3_init 53 = .ok (.invokespecial 31, 3) := by decide +kernel
theorem dX3_init_56 : decode cX3_init 56 = .ok (.putfield 32, 3) := by decide +kernel
theorem dX3_init_59 : decode cX3_init 59 = .ok (.aload_n 0, 1) := by decide +kernel
theorem dX3_init_60 : decode cX3_init 60 = .ok (.new 29, 3) := by decide +kernel
theorem dX3_init_63 : decode cX3_init 63 = .ok (.dup, 1) := by decide +kernel
theorem dX3_init_64 : decode cX3_init 64 = .ok (.invokespecial 31, 3) := by decide +kernel
theorem dX3_init_67 : decode cX3_init 67 = .ok (.putfield 36, 3) := by decide +kernel
theorem dX3_init_70 : decode cX3_init 70 = .ok (.aload_n 0, 1) := by decide +kernel
theorem dX3_init_71 : decode cX3_init 71 = .ok (.iconst 0, 1) := by decide +kernel
theorem dX3_init_72 : decode cX3_init 72 = .ok (.putfield 39, 3) := by decide +kernel
theorem dX3_init_75 : decode cX3_init 75 = .ok (.aload_n 0, 1) := by decide +kernel
theorem dX3_init_76 : decode cX3_init 76 = .ok (.iconst 0, 1) := by decide +kernel
theorem dX3_init_77 : decode cX3_init 77 = .ok (.putfield 43, 3) := by decide +kernel
theorem dX3_init_80 : decode cX3_init 80 = .ok (.return_, 1) := by decide +kernel
set_option maxRecDepth 20000 in
theorem ggX3_letter_X2_append : GoodIn wsX3_letter wsX2_append := goodIn_r _ [7, 8, 9, 18, 19] (by decide +kernel) (by decide +kernel)
set_option maxRecDepth 20000 in
theorem gX3_letter_X2_append : GoodIn wsX3_letter (wsV RX3 50 RX2 yX2_append wsX2_append) := goodIn_app (goodIn_of _ (by decide +kernel)) ggX3_letter_X2_append
theorem dX3_letter_0 : decode cX3_letter 0 = .ok (.iload_n 1, 1) := by decide +kernel
theorem dX3_letter_1 : decode cX3_letter 1 = .ok (.bipush 32, 2) := by decide +kernel
theorem dX3_letter_3 : decode cX3_letter 3 = .ok (.if_icmp .lt 9, 3) := by decide +kernel
theorem dX3_letter_6 : decode cX3_letter 6 = .ok (.iload_n 1, 1) := by decide +kernel
theorem dX3_letter_7 : decode cX3_letter 7 = .ok (.bipush 126, 2) := by decide +kernel
theorem dX3_letter_9 : decode cX3_letter 9 = .ok (.if_icmp .le 6, 3) := by decide +kernel
theorem dX3_letter_12 : decode cX3_letter 12 = .ok (.bipush (-102), 2) := by decide +kernel
theorem dX3_letter_14 : decode cX3_letter 14 = .ok (.ireturn, 1) := by decide +kernel
theorem dX3_letter_15 : decode cX3_letter 15 = .ok (.aload_n 0, 1) := by decide +kernel
theorem dX3_letter_16 : decode cX3_letter 16 = .ok (.getfield 12, 3) := by decide +kernel
theorem dX3_letter_19 : decode cX3_letter 19 = .ok (.getfield 47, 3) := by decide +kernel
theorem dX3_letter_22 : decode cX3_letter 22 = .ok (.bipush 18, 2) := by decide +kernel
theorem dX3_letter_24 : decode cX3_letter 24 = .ok (.if_icmp .lt 6, 3) := by decide +kernel
theorem dX3_letter_27 : decode cX3_letter 27 = .ok (.bipush (-104), 2) := by decide +kernel
theorem dX3_letter_29 : decode cX3_letter 29 = .ok (.ireturn, 1) := by decide +kernel
theorem dX3_letter_30 : decode cX3_letter 30 = .ok (.aload_n 0, 1) := by decide +kernel
theorem dX3_letter_31 : decode cX3_letter 31 = .ok (.getfield 12, 3) := by decide +kernel
theorem dX3_letter_34 : decode cX3_letter 34 = .ok (.iload_n 1, 1) := by decide +kernel
theorem dX3_letter_35 : decode cX3_letter 35 = .ok (.invokevirtual 50, 3) := by decide +kernel
theorem dX3_letter_38 : decode cX3_letter 38 = .ok (.ireturn, 1) := by decide +kernel
set_option maxRecDepth 20000 in
theorem ggX3_blank_X2_clear : GoodIn wsX3_blank wsX2_clear := goodIn_r _ [6, 7, 16, 17] (by decide +kernel) (by decide +kernel)
set_option maxRecDepth 20000 in
theorem gX3_blank_X2_clear : GoodIn wsX3_blank (wsV RX3 54 RX2 yX2_clear wsX2_clear) := goodIn_app (goodIn_of _ (by decide +kernel)) ggX3_blank_X2_clear
theorem dX3_blank_0 : decode cX3_blank 0 = .ok (.aload_n 0, 1) := by decide +kernel
theorem dX3_blank_1 : decode cX3_blank 1 = .ok (.getfield 12, 3) := by decide +kernel
theorem dX3_blank_4 : decode cX3_blank 4 = .ok (.invokevirtual 54, 3) := by decide +kernel
theorem dX3_blank_7 : decode cX3_blank 7 = .ok (.ireturn, 1) := by decide +kernel
set_option maxRecDepth 20000 in
theorem ggX3_fault_X2_firstFault : GoodIn wsX3_fault wsX2_firstFault := goodIn_r _ [6, 7, 8, 9, 10, 5, 11, 20, 21] (by decide +kernel) (by decide +kernel)
set_option maxRecDepth 20000 in
theorem gX3_fault_X2_firstFault : GoodIn wsX3_fault (wsV RX3 58 RX2 yX2_firstFault wsX2_firstFault) := goodIn_app (goodIn_of _ (by decide +kernel)) ggX3_fault_X2_firstFault
theorem dX3_fault_0 : decode cX3_fault 0 = .ok (.aload_n 0, 1) := by decide +kernel
theorem dX3_fault_1 : decode cX3_fault 1 = .ok (.getfield 12, 3) := by decide +kernel
theorem dX3_fault_4 : decode cX3_fault 4 = .ok (.invokevirtual 58, 3) := by decide +kernel
theorem dX3_fault_7 : decode cX3_fault 7 = .ok (.ireturn, 1) := by decide +kernel
set_option maxRecDepth 20000 in
theorem ggX3_cellar_X2_casksWritten : GoodIn wsX3_cellar wsX2_casksWritten := goodIn_r _ [9, 10, 11, 12, 13, 8, 14, 15, 16, 17, 18, 65, 66] (by decide +kernel) (by decide +kernel)
set_option maxRecDepth 20000 in
theorem gX3_cellar_X2_casksWritten : GoodIn wsX3_cellar (wsV RX3 61 RX2 yX2_casksWritten wsX2_casksWritten) := goodIn_app (goodIn_of _ (by decide +kernel)) ggX3_cellar_X2_casksWritten
set_option maxRecDepth 20000 in
theorem ggX3_cellar_X1_readFrom : GoodIn wsX3_cellar wsX1_readFrom := goodIn_r _ [23, 24, 25, 26, 27, 28, 29, 30, 31, 32, 33, 34, 8, 35, 10, 15, 36, 37, 38, 39, 40, 41, 42, 43, 44, 45, 46, 47, 48, 49, 22, 50, 51, 52, 67, 68, 69, 70, 71, 72, 73, 74, 75, 76, 77, 65, 66, 78, 79] (by decide +kernel) (by decide +kernel)
set_option maxRecDepth 20000 in
theorem gX3_cellar_X1_readFrom : GoodIn wsX3_cellar (wsV RX3 64 RX1 yX1_readFrom wsX1_readFrom) := goodIn_app (goodIn_of _ (by decide +kernel)) ggX3_cellar_X1_readFrom
set_option maxRecDepth 20000 in
theorem ggX3_cellar_X2_clear : GoodIn wsX3_cellar wsX2_clear := goodIn_r _ [56, 10, 65, 66] (by decide +kernel) (by decide +kernel)
set_option maxRecDepth 20000 in
theorem gX3_cellar_X2_clear : GoodIn wsX3_cellar (wsV RX3 54 RX2 yX2_clear wsX2_clear) := goodIn_app (goodIn_of _ (by decide +kernel)) ggX3_cellar_X2_clear
theorem dX3_cellar_0 : decode cX3_cellar 0 = .ok (.aload_n 0, 1) := by decide +kernel
theorem dX3_cellar_1 : decode cX3_cellar 1 = .ok (.getfield 12, 3) := by decide +kernel
theorem dX3_cellar_4 : decode cX3_cellar 4 = .ok (.invokevirtual 61, 3) := by decide +kernel
theorem dX3_cellar_7 : decode cX3_cellar 7 = .ok (.istore_n 1, 1) := by decide +kernel
theorem dX3_cellar_8 : decode cX3_cellar 8 = .ok (.iload_n 1, 1) := by decide +kernel
theorem dX3_cellar_9 : decode cX3_cellar 9 = .ok (.ifCond .ne 6, 3) := by decide +kernel
theorem dX3_cellar_12 : decode cX3_cellar 12 = .ok (.bipush (-103), 2) := by decide +kernel
theorem dX3_cellar_14 : decode cX3_cellar 14 = .ok (.ireturn, 1) := by decide +kernel
theorem dX3_cellar_15 : decode cX3_cellar 15 = .ok (.aload_n 0, 1) := by decide +kernel
theorem dX3_cellar_16 : decode cX3_cellar 16 = .ok (.getfield 19, 3) := by decide +kernel
theorem dX3_cellar_19 : decode cX3_cellar 19 = .ok (.aload_n 0, 1) := by decide +kernel
theorem dX3_cellar_20 : decode cX3_cellar 20 = .ok (.getfield 12, 3) := by decide +kernel
theorem dX3_cellar_23 : decode cX3_cellar 23 = .ok (.iload_n 1, 1) := by decide +kernel
theorem dX3_cellar_24 : decode cX3_cellar 24 = .ok (.invokevirtual 64, 3) := by decide +kernel
theorem dX3_cellar_27 : decode cX3_cellar 27 = .ok (.aload_n 0, 1) := by decide +kernel
theorem dX3_cellar_28 : decode cX3_cellar 28 = .ok (.getfield 12, 3) := by decide +kernel
theorem dX3_cellar_31 : decode cX3_cellar 31 = .ok (.invokevirtual 54, 3) := by decide +kernel
theorem dX3_cellar_34 : decode cX3_cellar 34 = .ok (.pop, 1) := by decide +kernel
theorem dX3_cellar_35 : decode cX3_cellar 35 = .ok (.aload_n 0, 1) := by decide +kernel
theorem dX3_cellar_36 : decode cX3_cellar 36 = .ok (.iconst 0, 1) := by decide +kernel
theorem dX3_cellar_37 : decode cX3_cellar 37 = .ok (.putfield 39, 3) := by decide +kernel
theorem dX3_cellar_40 : decode cX3_cellar 40 = .ok (.aload_n 0, 1) := by decide +kernel
theorem dX3_cellar_41 : decode cX3_cellar 41 = .ok (.dup, 1) := by decide +kernel
theorem dX3_cellar_42 : decode cX3_cellar 42 = .ok (.getfield 43, 3) := by decide +kernel
theorem dX3_cellar_45 : decode cX3_cellar 45 = .ok (.iconst 1, 1) := by decide +kernel
theorem dX3_cellar_46 : decode cX3_cellar 46 = .ok (.iadd, 1) := by decide +kernel
theorem dX3_cellar_47 : decode cX3_cellar 47 = .ok (.putfield 43, 3) := by decide +kernel
theorem dX3_cellar_50 : decode cX3_cellar 50 = .ok (.iload_n 1, 1) := by decide +kernel
theorem dX3_cellar_51 : decode cX3_cellar 51 = .ok (.ireturn, 1) := by decide +kernel
set_option maxRecDepth 20000 in
theorem ggX3_cask_X1_hasCask : GoodIn wsX3_cask wsX1_hasCask := goodIn_r _ [10, 11, 67, 68, 69, 70, 71, 72, 73, 74, 75, 76, 77] (by decide +kernel) (by decide +kernel)
set_option maxRecDepth 20000 in
theorem gX3_cask_X1_hasCask : GoodIn wsX3_cask (wsV RX3 68 RX1 yX1_hasCask wsX1_hasCask) := goodIn_app (goodIn_of _ (by decide +kernel)) ggX3_cask_X1_hasCask
set_option maxRecDepth 20000 in
theorem ggX3_cask_X0_age : GoodIn wsX3_cask wsX0_age := goodIn_r _ [16, 17, 18, 19, 20, 15, 21, 22, 23, 24, 25, 26, 27, 28, 29, 30, 31, 32, 33, 34, 78, 79] (by decide +kernel) (by decide +kernel)
set_option maxRecDepth 20000 in
theorem gX3_cask_X0_age : GoodIn wsX3_cask (wsV RX3 86 RX0 yX0_age wsX0_age) := goodIn_app (goodIn_of _ (by decide +kernel)) ggX3_cask_X0_age
set_option maxRecDepth 20000 in
theorem ggX3_cask_X1_whoMay : GoodIn wsX3_cask wsX1_whoMay := goodIn_r _ [38, 39, 40, 41, 42, 43, 13, 14, 15, 16, 17, 18, 19, 20, 21, 22, 23, 24, 25, 26, 27, 28, 29, 30, 31, 32, 33, 34, 44, 45, 46, 47, 48, 49, 50, 51, 52, 53, 54, 55, 56, 57, 67, 68, 69, 70, 71, 72, 73, 74, 75, 76, 77, 78, 79] (by decide +kernel) (by decide +kernel)
set_option maxRecDepth 20000 in
theorem gX3_cask_X1_whoMay : GoodIn wsX3_cask (wsV RX3 89 RX1 yX1_whoMay wsX1_whoMay) := goodIn_app (goodIn_of _ (by decide +kernel)) ggX3_cask_X1_whoMay
set_option maxRecDepth 20000 in
theorem ggX3_cask_X0_yearBits : GoodIn wsX3_cask wsX0_yearBits := goodIn_r _ [47, 22, 78, 79] (by decide +kernel) (by decide +kernel)
set_option maxRecDepth 20000 in
theorem gX3_cask_X0_yearBits : GoodIn wsX3_cask (wsV RX3 93 RX0 yX0_yearBits wsX0_yearBits) := goodIn_app (goodIn_of _ (by decide +kernel)) ggX3_cask_X0_yearBits
theorem dX3_cask_0 : decode cX3_cask 0 = .ok (.aload_n 0, 1) := by decide +kernel
theorem dX3_cask_1 : decode cX3_cask 1 = .ok (.getfield 19, 3) := by decide +kernel
theorem dX3_cask_4 : decode cX3_cask 4 = .ok (.iload_n 1, 1) := by decide +kernel
theorem dX3_cask_5 : decode cX3_cask 5 = .ok (.invokevirtual 68, 3) := by decide +kernel
theorem dX3_cask_8 : decode cX3_cask 8 = .ok (.ifCond .ne 6, 3) := by decide +kernel
theorem dX3_cask_11 : decode cX3_cask 11 = .ok (.bipush (-101), 2) := by decide +kernel
theorem dX3_cask_13 : decode cX3_cask 13 = .ok (.ireturn, 1) := by decide +kernel
theorem dX3_cask_14 : decode cX3_cask 14 = .ok (.aload_n 0, 1) := by decide +kernel
theorem dX3_cask_15 : decode cX3_cask 15 = .ok (.getfield 19, 3) := by decide +kernel
theorem dX3_cask_18 : decode cX3_cask 18 = .ok (.getfield 72, 3) := by decide +kernel
theorem dX3_cask_21 : decode cX3_cask 21 = .ok (.iload_n 1, 1) := by decide +kernel
theorem dX3_cask_22 : decode cX3_cask 22 = .ok (.aaload, 1) := by decide +kernel
theorem dX3_cask_23 : decode cX3_cask 23 = .ok (.astore_n 3, 1) := by decide +kernel
theorem dX3_cask_24 : decode cX3_cask 24 = .ok (.iload_n 2, 1) := by decide +kernel
theorem dX3_cask_25 : decode cX3_cask 25 = .ok (.bipush 10, 2) := by decide +kernel
theorem dX3_cask_27 : decode cX3_cask 27 = .ok (.if_icmp .lt 19, 3) := by decide +kernel
theorem dX3_cask_30 : decode cX3_cask 30 = .ok (.iload_n 2, 1) := by decide +kernel
theorem dX3_cask_31 : decode cX3_cask 31 = .ok (.bipush 20, 2) := by decide +kernel
theorem dX3_cask_33 : decode cX3_cask 33 = .ok (.if_icmp .ge 13, 3) := by decide +kernel
theorem dX3_cask_36 : decode cX3_cask 36 = .ok (.aload_n 3, 1) := by decide +kernel
theorem dX3_cask_37 : decode cX3_cask 37 = .ok (.getfield 76, 3) := by decide +kernel
theorem dX3_cask_40 : decode cX3_cask 40 = .ok (.iload_n 2, 1) := by decide +kernel
theorem dX3_cask_41 : decode cX3_cask 41 = .ok (.bipush 10, 2) := by decide +kernel
theorem dX3_cask_43 : decode cX3_cask 43 = .ok (.isub, 1) := by decide +kernel
theorem dX3_cask_44 : decode cX3_cask 44 = .ok (.iaload, 1) := by decide +kernel
theorem dX3_cask_45 : decode cX3_cask 45 = .ok (.ireturn, 1) := by decide +kernel
theorem dX3_cask_46 : decode cX3_cask 46 = .ok (.iload_n 2, 1) := by decide +kernel
theorem dX3_cask_47 : decode cX3_cask 47 = .ok (.tableswitch 60 0 3 #[29, 34, 46, 55], 29) := by decide +kernel
theorem dX3_cask_76 : decode cX3_cask 76 = .ok (.aload_n 3, 1) := by decide +kernel
theorem dX3_cask_77 : decode cX3_cask 77 = .ok (.getfield 80, 3) := by decide +kernel
theorem dX3_cask_80 : decode cX3_cask 80 = .ok (.ireturn, 1) := by decide +kernel
theorem dX3_cask_81 : decode cX3_cask 81 = .ok (.aload_n 3, 1) := by decide +kernel
theorem dX3_cask_82 : decode cX3_cask 82 = .ok (.aload_n 0, 1) := by decide +kernel
theorem dX3_cask_83 : decode cX3_cask 83 = .ok (.getfield 19, 3) := by decide +kernel
theorem dX3_cask_86 : decode cX3_cask 86 = .ok (.getfield 83, 3) := by decide +kernel
theorem dX3_cask_89 : decode cX3_cask 89 = .ok (.invokevirtual 86, 3) := by decide +kernel
theorem dX3_cask_92 : decode cX3_cask 92 = .ok (.ireturn, 1) := by decide +kernel
theorem dX3_cask_93 : decode cX3_cask 93 = .ok (.aload_n 0, 1) := by decide +kernel
theorem dX3_cask_94 : decode cX3_cask 94 = .ok (.getfield 19, 3) := by decide +kernel
theorem dX3_cask_97 : decode cX3_cask 97 = .ok (.aload_n 3, 1) := by decide +kernel
theorem dX3_cask_98 : decode cX3_cask 98 = .ok (.invokevirtual 89, 3) := by decide +kernel
theorem dX3_cask_101 : decode cX3_cask 101 = .ok (.ireturn, 1) := by decide +kernel
theorem dX3_cask_102 : decode cX3_cask 102 = .ok (.aload_n 3, 1) := by decide +kernel
theorem dX3_cask_103 : decode cX3_cask 103 = .ok (.invokevirtual 93, 3) := by decide +kernel
theorem dX3_cask_106 : decode cX3_cask 106 = .ok (.ireturn, 1) := by decide +kernel
theorem dX3_cask_107 : decode cX3_cask 107 = .ok (.bipush (-102), 2) := by decide +kernel
theorem dX3_cask_109 : decode cX3_cask 109 = .ok (.ireturn, 1) := by decide +kernel
set_option maxRecDepth 20000 in
theorem ggX3_person_X3_isKind : GoodIn wsX3_person wsX3_isKind := goodIn_r _ [6] (by decide +kernel) (by decide +kernel)
set_option maxRecDepth 20000 in
theorem gX3_person_X3_isKind : GoodIn wsX3_person (va_wsS RX3 96 yX3_isKind wsX3_isKind) := goodIn_app (goodIn_of _ (by decide +kernel)) ggX3_person_X3_isKind
set_option maxRecDepth 20000 in
theorem ggX3_person_X1_isThere : GoodIn wsX3_person wsX1_isThere := goodIn_r _ [11, 12, 29, 30, 31, 32, 33, 34, 35, 36, 37, 38, 39] (by decide +kernel) (by decide +kernel)
set_option maxRecDepth 20000 in
theorem gX3_person_X1_isThere : GoodIn wsX3_person (wsV RX3 99 RX1 yX1_isThere wsX1_isThere) := goodIn_app (goodIn_of _ (by decide +kernel)) ggX3_person_X1_isThere
set_option maxRecDepth 20000 in
theorem ggX3_person_X1_welcome : GoodIn wsX3_person wsX1_welcome := goodIn_r _ [16, 17, 18, 19, 20, 29, 30, 31, 32, 33, 34, 35, 36, 37, 38, 39] (by decide +kernel) (by decide +kernel)
set_option maxRecDepth 20000 in
theorem gX3_person_X1_welcome : GoodIn wsX3_person (wsV RX3 106 RX1 yX1_welcome wsX1_welcome) := goodIn_app (goodIn_of _ (by decide +kernel)) ggX3_person_X1_welcome
theorem dX3_person_0 : decode cX3_person 0 = .ok (.iload_n 1, 1) := by decide +kernel
theorem dX3_person_1 : decode cX3_person 1 = .ok (.invokestatic 96, 3) := by decide +kernel
theorem dX3_person_4 : decode cX3_person 4 = .ok (.ifCond .eq 13, 3) := by decide +kernel
theorem dX3_person_7 : decode cX3_person 7 = .ok (.iload_n 2, 1) := by decide +kernel
theorem dX3_person_8 : decode cX3_person 8 = .ok (.ifCond .lt 9, 3) := by decide +kernel
theorem dX3_person_11 : decode cX3_person 11 = .ok (.iload_n 2, 1) := by decide +kernel
theorem dX3_person_12 : decode cX3_person 12 = .ok (.bipush 10, 2) := by decide +kernel
theorem dX3_person_14 : decode cX3_person 14 = .ok (.if_icmp .lt 6, 3) := by decide +kernel
theorem dX3_person_17 : decode cX3_person 17 = .ok (.bipush (-102), 2) := by decide +kernel
theorem dX3_person_19 : decode cX3_person 19 = .ok (.ireturn, 1) := by decide +kernel
theorem dX3_person_20 : decode cX3_person 20 = .ok (.aload_n 0, 1) := by decide +kernel
theorem dX3_person_21 : decode cX3_person 21 = .ok (.getfield 19, 3) := by decide +kernel
theorem dX3_person_24 : decode cX3_person 24 = .ok (.invokevirtual 99, 3) := by decide +kernel
theorem dX3_person_27 : decode cX3_person 27 = .ok (.ifCond .ne 6, 3) := by decide +kernel
theorem dX3_person_30 : decode cX3_person 30 = .ok (.bipush (-103), 2) := by decide +kernel
theorem dX3_person_32 : decode cX3_person 32 = .ok (.ireturn, 1) := by decide +kernel
theorem dX3_person_33 : decode cX3_person 33 = .ok (.aload_n 0, 1) := by decide +kernel
theorem dX3_person_34 : decode cX3_person 34 = .ok (.getfield 19, 3) := by decide +kernel
theorem dX3_person_37 : decode cX3_person 37 = .ok (.getfield 103, 3) := by decide +kernel
theorem dX3_person_40 : decode cX3_person 40 = .ok (.iconst 5, 1) := by decide +kernel
theorem dX3_person_41 : decode cX3_person 41 = .ok (.if_icmp .lt 6, 3) := by decide +kernel
theorem dX3_person_44 : decode cX3_person 44 = .ok (.bipush (-104), 2) := by decide +kernel
theorem dX3_person_46 : decode cX3_person 46 = .ok (.ireturn, 1) := by decide +kernel
theorem dX3_person_47 : decode cX3_person 47 = .ok (.aload_n 0, 1) := by decide +kernel
theorem dX3_person_48 : decode cX3_person 48 = .ok (.getfield 19, 3) := by decide +kernel
theorem dX3_person_51 : decode cX3_person 51 = .ok (.iload_n 1, 1) := by decide +kernel
theorem dX3_person_52 : decode cX3_person 52 = .ok (.iload_n 2, 1) := by decide +kernel
theorem dX3_person_53 : decode cX3_person 53 = .ok (.invokevirtual 106, 3) := by decide +kernel
theorem dX3_person_56 : decode cX3_person 56 = .ok (.ireturn, 1) := by decide +kernel
set_option maxRecDepth 20000 in
theorem ggX3_about_X1_hasPerson : GoodIn wsX3_about wsX1_hasPerson := goodIn_r _ [9, 10, 73, 74, 75, 76, 77, 78, 79, 80, 81, 82, 83] (by decide +kernel) (by decide +kernel)
set_option maxRecDepth 20000 in
theorem gX3_about_X1_hasPerson : GoodIn wsX3_about (wsV RX3 110 RX1 yX1_hasPerson wsX1_hasPerson) := goodIn_app (goodIn_of _ (by decide +kernel)) ggX3_about_X1_hasPerson
set_option maxRecDepth 20000 in
theorem ggX3_about_X1_casksFor : GoodIn wsX3_about wsX1_casksFor := goodIn_r _ [14, 15, 16, 17, 18, 19, 8, 20, 21, 22, 23, 24, 25, 10, 26, 27, 28, 29, 30, 31, 32, 33, 34, 35, 36, 37, 38, 39, 40, 41, 42, 43, 44, 45, 46, 47, 48, 49, 50, 51, 52, 53, 54, 55, 56, 57, 58, 59, 60, 61, 62, 63, 64, 73, 74, 75, 76, 77, 78, 79, 80, 81, 82, 83, 84, 85] (by decide +kernel) (by decide +kernel)
set_option maxRecDepth 20000 in
theorem gX3_about_X1_casksFor : GoodIn wsX3_about (wsV RX3 119 RX1 yX1_casksFor wsX1_casksFor) := goodIn_app (goodIn_of _ (by decide +kernel)) ggX3_about_X1_casksFor
theorem dX3_about_0 : decode cX3_about 0 = .ok (.aload_n 0, 1) := by decide +kernel
theorem dX3_about_1 : decode cX3_about 1 = .ok (.getfield 19, 3) := by decide +kernel
theorem dX3_about_4 : decode cX3_about 4 = .ok (.iload_n 1, 1) := by decide +kernel
theorem dX3_about_5 : decode cX3_about 5 = .ok (.invokevirtual 110, 3) := by decide +kernel
theorem dX3_about_8 : decode cX3_about 8 = .ok (.ifCond .ne 6, 3) := by decide +kernel
theorem dX3_about_11 : decode cX3_about 11 = .ok (.bipush (-101), 2) := by decide +kernel
theorem dX3_about_13 : decode cX3_about 13 = .ok (.ireturn, 1) := by decide +kernel
theorem dX3_about_14 : decode cX3_about 14 = .ok (.iload_n 2, 1) := by decide +kernel
theorem dX3_about_15 : decode cX3_about 15 = .ok (.tableswitch 68 0 3 #[29, 39, 49, 58], 29) := by decide +kernel
theorem dX3_about_44 : decode cX3_about 44 = .ok (.aload_n 0, 1) := by decide +kernel
theorem dX3_about_45 : decode cX3_about 45 = .ok (.getfield 19, 3) := by decide +kernel
theorem dX3_about_48 : decode cX3_about 48 = .ok (.getfield 113, 3) := by decide +kernel
theorem dX3_about_51 : decode cX3_about 51 = .ok (.iload_n 1, 1) := by decide +kernel
theorem dX3_about_52 : decode cX3_about 52 = .ok (.iaload, 1) := by decide +kernel
theorem dX3_about_53 : decode cX3_about 53 = .ok (.ireturn, 1) := by decide +kernel
theorem dX3_about_54 : decode cX3_about 54 = .ok (.aload_n 0, 1) := by decide +kernel
theorem dX3_about_55 : decode cX3_about 55 = .ok (.getfield 19, 3) := by decide +kernel
theorem dX3_about_58 : decode cX3_about 58 = .ok (.getfield 116, 3) := by decide +kernel
theorem dX3_about_61 : decode cX3_about 61 = .ok (.iload_n 1, 1) := by decide +kernel
theorem dX3_about_62 : decode cX3_about 62 = .ok (.iaload, 1) := by decide +kernel
theorem dX3_about_63 : decode cX3_about 63 = .ok (.ireturn, 1) := by decide +kernel
theorem dX3_about_64 : decode cX3_about 64 = .ok (.aload_n 0, 1) := by decide +kernel
theorem dX3_about_65 : decode cX3_about 65 = .ok (.getfield 19, 3) := by decide +kernel
theorem dX3_about_68 : decode cX3_about 68 = .ok (.iload_n 1, 1) := by decide +kernel
theorem dX3_about_69 : decode cX3_about 69 = .ok (.invokevirtual 119, 3) := by decide +kernel
theorem dX3_about_72 : decode cX3_about 72 = .ok (.ireturn, 1) := by decide +kernel
theorem dX3_about_73 : decode cX3_about 73 = .ok (.aload_n 0, 1) := by decide +kernel
theorem dX3_about_74 : decode cX3_about 74 = .ok (.getfield 19, 3) := by decide +kernel
theorem dX3_about_77 : decode cX3_about 77 = .ok (.getfield 122, 3) := by decide +kernel
theorem dX3_about_80 : decode cX3_about 80 = .ok (.iload_n 1, 1) := by decide +kernel
theorem dX3_about_81 : decode cX3_about 81 = .ok (.iaload, 1) := by decide +kernel
theorem dX3_about_82 : decode cX3_about 82 = .ok (.ireturn, 1) := by decide +kernel
theorem dX3_about_83 : decode cX3_about 83 = .ok (.bipush (-102), 2) := by decide +kernel
theorem dX3_about_85 : decode cX3_about 85 = .ok (.ireturn, 1) := by decide +kernel
set_option maxRecDepth 20000 in
theorem ggX3_as_X1_hasPerson : GoodIn wsX3_as wsX1_hasPerson := goodIn_r _ [7, 8, 24, 25, 26, 27, 28, 29, 30, 31, 32, 33, 34] (by decide +kernel) (by decide +kernel)
set_option maxRecDepth 20000 in
theorem gX3_as_X1_hasPerson : GoodIn wsX3_as (wsV RX3 110 RX1 yX1_hasPerson wsX1_hasPerson) := goodIn_app (goodIn_of _ (by decide +kernel)) ggX3_as_X1_hasPerson
set_option maxRecDepth 20000 in
theorem ggX3_as_X3_isKind : GoodIn wsX3_as wsX3_isKind := goodIn_r _ [12] (by decide +kernel) (by decide +kernel)
set_option maxRecDepth 20000 in
theorem gX3_as_X3_isKind : GoodIn wsX3_as (va_wsS RX3 96 yX3_isKind wsX3_isKind) := goodIn_app (goodIn_of _ (by decide +kernel)) ggX3_as_X3_isKind
set_option maxRecDepth 20000 in
theorem ggX3_as_X3_isOfKind : GoodIn wsX3_as wsX3_isOfKind := goodIn_r _ [15] (by decide +kernel) (by decide +kernel)
set_option maxRecDepth 20000 in
theorem gX3_as_X3_isOfKind : GoodIn wsX3_as (va_wsS RX3 125 yX3_isOfKind wsX3_isOfKind) := goodIn_app (goodIn_of _ (by decide +kernel)) ggX3_as_X3_isOfKind
theorem dX3_as_0 : decode cX3_as 0 = .ok (.aload_n 0, 1) := by decide +kernel
theorem dX3_as_1 : decode cX3_as 1 = .ok (.getfield 19, 3) := by decide +kernel
theorem dX3_as_4 : decode cX3_as 4 = .ok (.iload_n 1, 1) := by decide +kernel
theorem dX3_as_5 : decode cX3_as 5 = .ok (.invokevirtual 110, 3) := by decide +kernel
theorem dX3_as_8 : decode cX3_as 8 = .ok (.ifCond .ne 6, 3) := by decide +kernel
theorem dX3_as_11 : decode cX3_as 11 = .ok (.bipush (-101), 2) := by decide +kernel
theorem dX3_as_13 : decode cX3_as 13 = .ok (.ireturn, 1) := by decide +kernel
theorem dX3_as_14 : decode cX3_as 14 = .ok (.iload_n 2, 1) := by decide +kernel
theorem dX3_as_15 : decode cX3_as 15 = .ok (.invokestatic 96, 3) := by decide +kernel
theorem dX3_as_18 : decode cX3_as 18 = .ok (.ifCond .ne 6, 3) := by decide +kernel
theorem dX3_as_21 : decode cX3_as 21 = .ok (.bipush (-102), 2) := by decide +kernel
theorem dX3_as_23 : decode cX3_as 23 = .ok (.ireturn, 1) := by decide +kernel
theorem dX3_as_24 : decode cX3_as 24 = .ok (.aload_n 0, 1) := by decide +kernel
theorem dX3_as_25 : decode cX3_as 25 = .ok (.getfield 19, 3) := by decide +kernel
theorem dX3_as_28 : decode cX3_as 28 = .ok (.getfield 113, 3) := by decide +kernel
theorem dX3_as_31 : decode cX3_as 31 = .ok (.iload_n 1, 1) := by decide +kernel
theorem dX3_as_32 : decode cX3_as 32 = .ok (.iaload, 1) := by decide +kernel
theorem dX3_as_33 : decode cX3_as 33 = .ok (.iload_n 2, 1) := by decide +kernel
theorem dX3_as_34 : decode cX3_as 34 = .ok (.invokestatic 125, 3) := by decide +kernel
theorem dX3_as_37 : decode cX3_as 37 = .ok (.ifCond .eq 7, 3) := by decide +kernel
theorem dX3_as_40 : decode cX3_as 40 = .ok (.iload_n 1, 1) := by decide +kernel
theorem dX3_as_41 : decode cX3_as 41 = .ok (.goto 4, 3) := by decide +kernel
theorem dX3_as_44 : decode cX3_as 44 = .ok (.iconst (-1), 1) := by decide +kernel
theorem dX3_as_45 : decode cX3_as 45 = .ok (.ireturn, 1) := by decide +kernel
set_option maxRecDepth 20000 in
theorem ggX3_drink_X1_hasPerson : GoodIn wsX3_drink wsX1_hasPerson := goodIn_r _ [8, 9, 88, 89, 90, 91, 92, 93, 94, 95, 96, 97, 98] (by decide +kernel) (by decide +kernel)
set_option maxRecDepth 20000 in
theorem gX3_drink_X1_hasPerson : GoodIn wsX3_drink (wsV RX3 110 RX1 yX1_hasPerson wsX1_hasPerson) := goodIn_app (goodIn_of _ (by decide +kernel)) ggX3_drink_X1_hasPerson
set_option maxRecDepth 20000 in
theorem ggX3_drink_X1_hasCask : GoodIn wsX3_drink wsX1_hasCask := goodIn_r _ [13, 14, 88, 89, 90, 91, 92, 93, 94, 95, 96, 97, 98] (by decide +kernel) (by decide +kernel)
set_option maxRecDepth 20000 in
theorem gX3_drink_X1_hasCask : GoodIn wsX3_drink (wsV RX3 68 RX1 yX1_hasCask wsX1_hasCask) := goodIn_app (goodIn_of _ (by decide +kernel)) ggX3_drink_X1_hasCask
set_option maxRecDepth 20000 in
theorem ggX3_drink_X1_sip : GoodIn wsX3_drink wsX1_sip := goodIn_r _ [18, 19, 20, 21, 22, 5, 6, 7, 8, 9, 23, 11, 12, 13, 14, 24, 25, 26, 27, 28, 29, 30, 31, 32, 33, 34, 35, 36, 37, 38, 39, 40, 41, 42, 43, 44, 45, 46, 47, 48, 49, 50, 51, 52, 53, 54, 55, 56, 57, 58, 59, 60, 61, 62, 63, 64, 65, 66, 67, 68, 69, 70, 71, 72, 73, 74, 75, 76, 77, 78, 79, 88, 89, 90, 91, 92, 93, 94, 95, 96, 97, 98, 99, 100] (by decide +kernel) (by decide +kernel)
set_option maxRecDepth 20000 in
theorem gX3_drink_X1_sip : GoodIn wsX3_drink (wsV RX3 129 RX1 yX1_sip wsX1_sip) := goodIn_app (goodIn_of _ (by decide +kernel)) ggX3_drink_X1_sip
theorem dX3_drink_0 : decode cX3_drink 0 = .ok (.aload_n 0, 1) := by decide +kernel
theorem dX3_drink_1 : decode cX3_drink 1 = .ok (.getfield 19, 3) := by decide +kernel
theorem dX3_drink_4 : decode cX3_drink 4 = .ok (.iload_n 1, 1) := by decide +kernel
theorem dX3_drink_5 : decode cX3_drink 5 = .ok (.invokevirtual 110, 3) := by decide +kernel
theorem dX3_drink_8 : decode cX3_drink 8 = .ok (.ifCond .eq 14, 3) := by decide +kernel
theorem dX3_drink_11 : decode cX3_drink 11 = .ok (.aload_n 0, 1) := by decide +kernel
theorem dX3_drink_12 : decode cX3_drink 12 = .ok (.getfield 19, 3) := by decide +kernel
theorem dX3_drink_15 : decode cX3_drink 15 = .ok (.iload_n 2, 1) := by decide +kernel
theorem dX3_drink_16 : decode cX3_drink 16 = .ok (.invokevirtual 68, 3) := by decide +kernel
theorem dX3_drink_19 : decode cX3_drink 19 = .ok (.ifCond .ne 6, 3) := by decide +kernel
theorem dX3_drink_22 : decode cX3_drink 22 = .ok (.bipush (-101), 2) := by decide +kernel
theorem dX3_drink_24 : decode cX3_drink 24 = .ok (.ireturn, 1) := by decide +kernel
theorem dX3_drink_25 : decode cX3_drink 25 = .ok (.aload_n 0, 1) := by decide +kernel
theorem dX3_drink_26 : decode cX3_drink 26 = .ok (.getfield 19, 3) := by decide +kernel
theorem dX3_drink_29 : decode cX3_drink 29 = .ok (.getfield 72, 3) := by decide +kernel
theorem dX3_drink_32 : decode cX3_drink 32 = .ok (.iload_n 2, 1) := by decide +kernel
theorem dX3_drink_33 : decode cX3_drink 33 = .ok (.aaload, 1) := by decide +kernel
theorem dX3_drink_34 : decode cX3_drink 34 = .ok (.getfield 80, 3) := by decide +kernel
theorem dX3_drink_37 : decode cX3_drink 37 = .ok (.ifCond .ne 6, 3) := by decide +kernel
theorem dX3_drink_40 : decode cX3_drink 40 = .ok (.bipush (-103), 2) := by decide +kernel
theorem dX3_drink_42 : decode cX3_drink 42 = .ok (.ireturn, 1) := by decide +kernel
theorem dX3_drink_43 : decode cX3_drink 43 = .ok (.aload_n 0, 1) := by decide +kernel
theorem dX3_drink_44 : decode cX3_drink 44 = .ok (.getfield 19, 3) := by decide +kernel
theorem dX3_drink_47 : decode cX3_drink 47 = .ok (.iload_n 1, 1) := by decide +kernel
theorem dX3_drink_48 : decode cX3_drink 48 = .ok (.iload_n 2, 1) := by decide +kernel
theorem dX3_drink_49 : decode cX3_drink 49 = .ok (.invokevirtual 129, 3) := by decide +kernel
theorem dX3_drink_52 : decode cX3_drink 52 = .ok (.ireturn, 1) := by decide +kernel
set_option maxRecDepth 20000 in
theorem ggX3_pour_X1_hasCask : GoodIn wsX3_pour wsX1_hasCask := goodIn_r _ [8, 9, 38, 39, 40, 41, 42, 43, 44, 45, 46, 47, 48] (by decide +kernel) (by decide +kernel)
set_option maxRecDepth 20000 in
theorem gX3_pour_X1_hasCask : GoodIn wsX3_pour (wsV RX3 68 RX1 yX1_hasCask wsX1_hasCask) := goodIn_app (goodIn_of _ (by decide +kernel)) ggX3_pour_X1_hasCask
set_option maxRecDepth 20000 in
theorem ggX3_pour_X0_room : GoodIn wsX3_pour wsX0_room := goodIn_r _ [14, 15, 49, 50] (by decide +kernel) (by decide +kernel)
set_option maxRecDepth 20000 in
theorem gX3_pour_X0_room : GoodIn wsX3_pour (wsV RX3 132 RX0 yX0_room wsX0_room) := goodIn_app (goodIn_of _ (by decide +kernel)) ggX3_pour_X0_room
set_option maxRecDepth 20000 in
theorem ggX3_pour_X0_takeLatest : GoodIn wsX3_pour wsX0_takeLatest := goodIn_r _ [19, 20, 21, 22, 13, 23, 24, 25, 26, 27, 28, 15, 49, 50] (by decide +kernel) (by decide +kernel)
set_option maxRecDepth 20000 in
theorem gX3_pour_X0_takeLatest : GoodIn wsX3_pour (wsV RX3 135 RX0 yX0_takeLatest wsX0_takeLatest) := goodIn_app (goodIn_of _ (by decide +kernel)) ggX3_pour_X0_takeLatest
set_option maxRecDepth 20000 in
theorem ggX3_pour_X0_put : GoodIn wsX3_pour wsX0_put := goodIn_r _ [28, 24, 15, 49, 50] (by decide +kernel) (by decide +kernel)
set_option maxRecDepth 20000 in
theorem gX3_pour_X0_put : GoodIn wsX3_pour (wsV RX3 138 RX0 yX0_put wsX0_put) := goodIn_app (goodIn_of _ (by decide +kernel)) ggX3_pour_X0_put
theorem dX3_pour_0 : decode cX3_pour 0 = .ok (.aload_n 0, 1) := by decide +kernel
theorem dX3_pour_1 : decode cX3_pour 1 = .ok (.getfield 19, 3) := by decide +kernel
theorem dX3_pour_4 : decode cX3_pour 4 = .ok (.iload_n 1, 1) := by decide +kernel
theorem dX3_pour_5 : decode cX3_pour 5 = .ok (.invokevirtual 68, 3) := by decide +kernel
theorem dX3_pour_8 : decode cX3_pour 8 = .ok (.ifCond .eq 19, 3) := by decide +kernel
theorem dX3_pour_11 : decode cX3_pour 11 = .ok (.aload_n 0, 1) := by decide +kernel
theorem dX3_pour_12 : decode cX3_pour 12 = .ok (.getfield 19, 3) := by decide +kernel
theorem dX3_pour_15 : decode cX3_pour 15 = .ok (.iload_n 2, 1) := by decide +kernel
theorem dX3_pour_16 : decode cX3_pour 16 = .ok (.invokevirtual 68, 3) := by decide +kernel
theorem dX3_pour_19 : decode cX3_pour 19 = .ok (.ifCond .eq 8, 3) := by decide +kernel
theorem dX3_pour_22 : decode cX3_pour 22 = .ok (.iload_n 1, 1) := by decide +kernel
theorem dX3_pour_23 : decode cX3_pour 23 = .ok (.iload_n 2, 1) := by decide +kernel
theorem dX3_pour_24 : decode cX3_pour 24 = .ok (.if_icmp .ne 6, 3) := by decide +kernel
theorem dX3_pour_27 : decode cX3_pour 27 = .ok (.bipush (-101), 2) := by decide +kernel
theorem dX3_pour_29 : decode cX3_pour 29 = .ok (.ireturn, 1) := by decide +kernel
theorem dX3_pour_30 : decode cX3_pour 30 = .ok (.iload_n 3, 1) := by decide +kernel
theorem dX3_pour_31 : decode cX3_pour 31 = .ok (.iconst 1, 1) := by decide +kernel
theorem dX3_pour_32 : decode cX3_pour 32 = .ok (.if_icmp .lt 9, 3) := by decide +kernel
theorem dX3_pour_35 : decode cX3_pour 35 = .ok (.iload_n 3, 1) := by decide +kernel
theorem dX3_pour_36 : decode cX3_pour 36 = .ok (.bipush 9, 2) := by decide +kernel
theorem dX3_pour_38 : decode cX3_pour 38 = .ok (.if_icmp .le 6, 3) := by decide +kernel
theorem dX3_pour_41 : decode cX3_pour 41 = .ok (.bipush (-102), 2) := by decide +kernel
theorem dX3_pour_43 : decode cX3_pour 43 = .ok (.ireturn, 1) := by decide +kernel
theorem dX3_pour_44 : decode cX3_pour 44 = .ok (.aload_n 0, 1) := by decide +kernel
theorem dX3_pour_45 : decode cX3_pour 45 = .ok (.getfield 19, 3) := by decide +kernel
theorem dX3_pour_48 : decode cX3_pour 48 = .ok (.getfield 72, 3) := by decide +kernel
theorem dX3_pour_51 : decode cX3_pour 51 = .ok (.iload_n 1, 1) := by decide +kernel
theorem dX3_pour_52 : decode cX3_pour 52 = .ok (.aaload, 1) := by decide +kernel
theorem dX3_pour_53 : decode cX3_pour 53 = .ok (.astore 4, 2) := by decide +kernel
theorem dX3_pour_55 : decode cX3_pour 55 = .ok (.aload_n 0, 1) := by decide +kernel
theorem dX3_pour_56 : decode cX3_pour 56 = .ok (.getfield 19, 3) := by decide +kernel
theorem dX3_pour_59 : decode cX3_pour 59 = .ok (.getfield 72, 3) := by decide +kernel
theorem dX3_pour_62 : decode cX3_pour 62 = .ok (.iload_n 2, 1) := by decide +kernel
theorem dX3_pour_63 : decode cX3_pour 63 = .ok (.aaload, 1) := by decide +kernel
theorem dX3_pour_64 : decode cX3_pour 64 = .ok (.astore 5, 2) := by decide +kernel
theorem dX3_pour_66 : decode cX3_pour 66 = .ok (.iload_n 3, 1) := by decide +kernel
theorem dX3_pour_67 : decode cX3_pour 67 = .ok (.aload 4, 2) := by decide +kernel
theorem dX3_pour_69 : decode cX3_pour 69 = .ok (.getfield 80, 3) := by decide +kernel
theorem dX3_pour_72 : decode cX3_pour 72 = .ok (.if_icmp .gt 12, 3) := by decide +kernel
theorem dX3_pour_75 : decode cX3_pour 75 = .ok (.iload_n 3, 1) := by decide +kernel
theorem dX3_pour_76 : decode cX3_pour 76 = .ok (.aload 5, 2) := by decide +kernel
theorem dX3_pour_78 : decode cX3_pour 78 = .ok (.invokevirtual 132, 3) := by decide +kernel
theorem dX3_pour_81 : decode cX3_pour 81 = .ok (.if_icmp .le 6, 3) := by decide +kernel
theorem dX3_pour_84 : decode cX3_pour 84 = .ok (.bipush (-103), 2) := by decide +kernel
theorem dX3_pour_86 : decode cX3_pour 86 = .ok (.ireturn, 1) := by decide +kernel
theorem dX3_pour_87 : decode cX3_pour 87 = .ok (.iconst 0, 1) := by decide +kernel
theorem dX3_pour_88 : decode cX3_pour 88 = .ok (.istore 6, 2) := by decide +kernel
theorem dX3_pour_90 : decode cX3_pour 90 = .ok (.iload 6, 2) := by decide +kernel
theorem dX3_pour_92 : decode cX3_pour 92 = .ok (.iload_n 3, 1) := by decide +kernel
theorem dX3_pour_93 : decode cX3_pour 93 = .ok (.if_icmp .ge 20, 3) := by decide +kernel
theorem dX3_pour_96 : decode cX3_pour 96 = .ok (.aload 5, 2) := by decide +kernel
theorem dX3_pour_98 : decode cX3_pour 98 = .ok (.aload 4, 2) := by decide +kernel
theorem dX3_pour_100 : decode cX3_pour 100 = .ok (.invokevirtual 135, 3) := by decide +kernel
theorem dX3_pour_103 : decode cX3_pour 103 = .ok (.iconst 1, 1) := by decide +kernel
theorem dX3_pour_104 : decode cX3_pour 104 = .ok (.invokevirtual 138, 3) := by decide +kernel
theorem dX3_pour_107 : decode cX3_pour 107 = .ok (.iinc 6 1, 3) := by decide +kernel
theorem dX3_pour_110 : decode cX3_pour 110 = .ok (.goto (-20), 3) := by decide +kernel
theorem dX3_pour_113 : decode cX3_pour 113 = .ok (.aload 5, 2) := by decide +kernel
theorem dX3_pour_115 : decode cX3_pour 115 = .ok (.getfield 80, 3) := by decide +kernel
theorem dX3_pour_118 : decode cX3_pour 118 = .ok (.ireturn, 1) := by decide +kernel
set_option maxRecDepth 20000 in
theorem ggX3_table_X1_arePeople : GoodIn wsX3_table wsX1_arePeople := goodIn_r _ [6, 7, 8, 9, 5, 10, 11, 84, 85, 86, 87, 88, 89, 90, 91, 92, 93, 94] (by decide +kernel) (by decide +kernel)
set_option maxRecDepth 20000 in
theorem gX3_table_X1_arePeople : GoodIn wsX3_table (wsV RX3 142 RX1 yX1_arePeople wsX1_arePeople) := goodIn_app (goodIn_of _ (by decide +kernel)) ggX3_table_X1_arePeople
set_option maxRecDepth 20000 in
theorem ggX3_table_X1_isThere : GoodIn wsX3_table wsX1_isThere := goodIn_r _ [15, 16, 84, 85, 86, 87, 88, 89, 90, 91, 92, 93, 94] (by decide +kernel) (by decide +kernel)
set_option maxRecDepth 20000 in
theorem gX3_table_X1_isThere : GoodIn wsX3_table (wsV RX3 99 RX1 yX1_isThere wsX1_isThere) := goodIn_app (goodIn_of _ (by decide +kernel)) ggX3_table_X1_isThere
set_option maxRecDepth 20000 in
theorem ggX3_table_X1_seated : GoodIn wsX3_table wsX1_seated := goodIn_r _ [20, 16, 21, 22, 23, 24, 25, 26, 27, 28, 29, 5, 30, 31, 11, 32, 33, 34, 35, 36, 37, 38, 39, 40, 41, 42, 43, 44, 45, 46, 47, 48, 49, 50, 51, 52, 53, 54, 55, 56, 57, 58, 59, 60, 61, 62, 63, 64, 65, 66, 67, 68, 69, 70, 71, 72, 73, 74, 75, 84, 85, 86, 87, 88, 89, 90, 91, 92, 93, 94, 95, 96] (by decide +kernel) (by decide +kernel)
set_option maxRecDepth 20000 in
theorem gX3_table_X1_seated : GoodIn wsX3_table (wsV RX3 145 RX1 yX1_seated wsX1_seated) := goodIn_app (goodIn_of _ (by decide +kernel)) ggX3_table_X1_seated
theorem dX3_table_0 : decode cX3_table 0 = .ok (.aload_n 0, 1) := by decide +kernel
theorem dX3_table_1 : decode cX3_table 1 = .ok (.getfield 19, 3) := by decide +kernel
theorem dX3_table_4 : decode cX3_table 4 = .ok (.iload_n 1, 1) := by decide +kernel
theorem dX3_table_5 : decode cX3_table 5 = .ok (.invokevirtual 142, 3) := by decide +kernel
theorem dX3_table_8 : decode cX3_table 8 = .ok (.ifCond .ne 6, 3) := by decide +kernel
theorem dX3_table_11 : decode cX3_table 11 = .ok (.bipush (-102), 2) := by decide +kernel
theorem dX3_table_13 : decode cX3_table 13 = .ok (.ireturn, 1) := by decide +kernel
theorem dX3_table_14 : decode cX3_table 14 = .ok (.aload_n 0, 1) := by decide +kernel
theorem dX3_table_15 : decode cX3_table 15 = .ok (.getfield 19, 3) := by decide +kernel
theorem dX3_table_18 : decode cX3_table 18 = .ok (.invokevirtual 99, 3) := by decide +kernel
theorem dX3_table_21 : decode cX3_table 21 = .ok (.ifCond .ne 6, 3) := by decide +kernel
theorem dX3_table_24 : decode cX3_table 24 = .ok (.bipush (-103), 2) := by decide +kernel
theorem dX3_table_26 : decode cX3_table 26 = .ok (.ireturn, 1) := by decide +kernel
theorem dX3_table_27 : decode cX3_table 27 = .ok (.aload_n 0, 1) := by decide +kernel
theorem dX3_table_28 : decode cX3_table 28 = .ok (.getfield 19, 3) := by decide +kernel
theorem dX3_table_31 : decode cX3_table 31 = .ok (.iload_n 1, 1) := by decide +kernel
theorem dX3_table_32 : decode cX3_table 32 = .ok (.invokevirtual 145, 3) := by decide +kernel
theorem dX3_table_35 : decode cX3_table 35 = .ok (.ireturn, 1) := by decide +kernel
set_option maxRecDepth 20000 in
theorem ggX3_blend_X1_arePeople : GoodIn wsX3_blend wsX1_arePeople := goodIn_r _ [6, 7, 8, 9, 5, 10, 11, 104, 105, 106, 107, 108, 109, 110, 111, 112, 113, 114] (by decide +kernel) (by decide +kernel)
set_option maxRecDepth 20000 in
theorem gX3_blend_X1_arePeople : GoodIn wsX3_blend (wsV RX3 142 RX1 yX1_arePeople wsX1_arePeople) := goodIn_app (goodIn_of _ (by decide +kernel)) ggX3_blend_X1_arePeople
set_option maxRecDepth 20000 in
theorem ggX3_blend_X3_isZeroOrOne : GoodIn wsX3_blend wsX3_isZeroOrOne := goodIn_r _ [15] (by decide +kernel) (by decide +kernel)
set_option maxRecDepth 20000 in
theorem gX3_blend_X3_isZeroOrOne : GoodIn wsX3_blend (va_wsS RX3 148 yX3_isZeroOrOne wsX3_isZeroOrOne) := goodIn_app (goodIn_of _ (by decide +kernel)) ggX3_blend_X3_isZeroOrOne
set_option maxRecDepth 20000 in
theorem ggX3_blend_X1_isThere : GoodIn wsX3_blend wsX1_isThere := goodIn_r _ [19, 20, 104, 105, 106, 107, 108, 109, 110, 111, 112, 113, 114] (by decide +kernel) (by decide +kernel)
set_option maxRecDepth 20000 in
theorem gX3_blend_X1_isThere : GoodIn wsX3_blend (wsV RX3 99 RX1 yX1_isThere wsX1_isThere) := goodIn_app (goodIn_of _ (by decide +kernel)) ggX3_blend_X1_isThere
set_option maxRecDepth 20000 in
theorem ggX3_blend_X3_leastBlend : GoodIn wsX3_blend wsX3_leastBlend := goodIn_r _ [24, 1, 25, 26, 27, 28, 29, 30, 31, 32, 33, 34, 35, 36, 37, 14, 38, 39, 40, 41, 42, 43, 44, 45, 46, 47, 48, 49, 50, 51, 52, 53, 54, 55, 56, 57, 5, 58, 59, 60, 61, 62, 63, 11, 64, 65, 66, 67, 68, 69, 70, 71, 72, 73, 74, 75, 76, 77, 78, 79, 80, 81, 82, 83, 84, 85, 86, 87, 88, 89, 90, 91, 92, 96, 97, 98, 99, 100, 101, 102, 103, 104, 105, 106, 107, 108, 109, 110, 111, 112, 113, 114, 115, 116] (by decide +kernel) (by decide +kernel)
set_option maxRecDepth 20000 in
theorem gX3_blend_X3_leastBlend : GoodIn wsX3_blend (wsV RX3 151 RX3 yX3_leastBlend wsX3_leastBlend) := goodIn_app (goodIn_of _ (by decide +kernel)) ggX3_blend_X3_leastBlend
set_option maxRecDepth 20000 in
theorem ggX3_blend_X3_casksIn : GoodIn wsX3_blend wsX3_casksIn := goodIn_r _ [95, 28, 29, 30, 31, 32, 33, 34] (by decide +kernel) (by decide +kernel)
