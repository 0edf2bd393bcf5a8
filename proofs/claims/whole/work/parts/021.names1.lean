theorem dX0_init_0 : decode cX0_init 0 = .ok (.aload_n 0, 1) := by decide +kernel
theorem dX0_init_1 : decode cX0_init 1 = .ok (.invokespecial 3, 3) := by decide +kernel
theorem dX0_init_4 : decode cX0_init 4 = .ok (.aload_n 0, 1) := by decide +kernel
theorem dX0_init_5 : decode cX0_init 5 = .ok (.sipush 150, 3) := by decide +kernel
theorem dX0_init_8 : decode cX0_init 8 = .ok (.newarray .int, 2) := by decide +kernel
theorem dX0_init_10 : decode cX0_init 10 = .ok (.putfield 9, 3) := by decide +kernel
theorem dX0_init_13 : decode cX0_init 13 = .ok (.aload_n 0, 1) := by decide +kernel
theorem dX0_init_14 : decode cX0_init 14 = .ok (.sipush 150, 3) := by decide +kernel
theorem dX0_init_17 : decode cX0_init 17 = .ok (.newarray .int, 2) := by decide +kernel
theorem dX0_init_19 : decode cX0_init 19 = .ok (.putfield 15, 3) := by decide +kernel
theorem dX0_init_22 : decode cX0_init 22 = .ok (.aload_n 0, 1) := by decide +kernel
theorem dX0_init_23 : decode cX0_init 23 = .ok (.sipush 150, 3) := by decide +kernel
theorem dX0_init_26 : decode cX0_init 26 = .ok (.newarray .int, 2) := by decide +kernel
theorem dX0_init_28 : decode cX0_init 28 = .ok (.putfield 18, 3) := by decide +kernel
theorem dX0_init_31 : decode cX0_init 31 = .ok (.aload_n 0, 1) := by decide +kernel
theorem dX0_init_32 : decode cX0_init 32 = .ok (.iconst 0, 1) := by decide +kernel
theorem dX0_init_33 : decode cX0_init 33 = .ok (.putfield 21, 3) := by decide +kernel
theorem dX0_init_36 : decode cX0_init 36 = .ok (.return_, 1) := by decide +kernel
theorem dX0_has_0 : decode cX0_has 0 = .ok (.iload_n 1, 1) := by decide +kernel
theorem dX0_has_1 : decode cX0_has 1 = .ok (.ifCond .lt 15, 3) := by decide +kernel
theorem dX0_has_4 : decode cX0_has 4 = .ok (.iload_n 1, 1) := by decide +kernel
theorem dX0_has_5 : decode cX0_has 5 = .ok (.aload_n 0, 1) := by decide +kernel
theorem dX0_has_6 : decode cX0_has 6 = .ok (.getfield 21, 3) := by decide +kernel
theorem dX0_has_9 : decode cX0_has 9 = .ok (.if_icmp .ge 7, 3) := by decide +kernel
theorem dX0_has_12 : decode cX0_has 12 = .ok (.iconst 1, 1) := by decide +kernel
theorem dX0_has_13 : decode cX0_has 13 = .ok (.goto 4, 3) := by decide +kernel
theorem dX0_has_16 : decode cX0_has 16 = .ok (.iconst 0, 1) := by decide +kernel
theorem dX0_has_17 : decode cX0_has 17 = .ok (.ireturn, 1) := by decide +kernel
theorem dX0_kind_0 : decode cX0_kind 0 = .ok (.aload_n 0, 1) := by decide +kernel
theorem dX0_kind_1 : decode cX0_kind 1 = .ok (.getfield 15, 3) := by decide +kernel
theorem dX0_kind_4 : decode cX0_kind 4 = .ok (.iload_n 1, 1) := by decide +kernel
theorem dX0_kind_5 : decode cX0_kind 5 = .ok (.iaload, 1) := by decide +kernel
theorem dX0_kind_6 : decode cX0_kind 6 = .ok (.bipush (-9), 2) := by decide +kernel
theorem dX0_kind_8 : decode cX0_kind 8 = .ok (.if_icmp .ne 7, 3) := by decide +kernel
theorem dX0_kind_11 : decode cX0_kind 11 = .ok (.iconst 1, 1) := by decide +kernel
theorem dX0_kind_12 : decode cX0_kind 12 = .ok (.goto 4, 3) := by decide +kernel
theorem dX0_kind_15 : decode cX0_kind 15 = .ok (.iconst 0, 1) := by decide +kernel
theorem dX0_kind_16 : decode cX0_kind 16 = .ok (.ireturn, 1) := by decide +kernel
set_option maxRecDepth 20000 in
theorem ggX0_sendGrant_X0_append : GoodIn wsX0_sendGrant wsX0_append := goodIn_r _ [5, 6, 7, 8, 9, 10, 11, 12, 13] (by decide +kernel) (by decide +kernel)
set_option maxRecDepth 20000 in
theorem gX0_sendGrant_X0_append : GoodIn wsX0_sendGrant (wsV RX0 25 RX0 yX0_append wsX0_append) := goodIn_app (goodIn_of _ (by decide +kernel)) ggX0_sendGrant_X0_append
theorem dX0_sendGrant_0 : decode cX0_sendGrant 0 = .ok (.aload_n 0, 1) := by decide +kernel
theorem dX0_sendGrant_1 : decode cX0_sendGrant 1 = .ok (.iload_n 1, 1) := by decide +kernel
theorem dX0_sendGrant_2 : decode cX0_sendGrant 2 = .ok (.iload_n 2, 1) := by decide +kernel
theorem dX0_sendGrant_3 : decode cX0_sendGrant 3 = .ok (.iload_n 3, 1) := by decide +kernel
theorem dX0_sendGrant_4 : decode cX0_sendGrant 4 = .ok (.invokevirtual 25, 3) := by decide +kernel
theorem dX0_sendGrant_7 : decode cX0_sendGrant 7 = .ok (.return_, 1) := by decide +kernel
set_option maxRecDepth 20000 in
theorem ggX0_sendReturn_X0_append : GoodIn wsX0_sendReturn wsX0_append := goodIn_r _ [5, 6, 7, 8, 9, 10, 11, 12, 13] (by decide +kernel) (by decide +kernel)
set_option maxRecDepth 20000 in
theorem gX0_sendReturn_X0_append : GoodIn wsX0_sendReturn (wsV RX0 25 RX0 yX0_append wsX0_append) := goodIn_app (goodIn_of _ (by decide +kernel)) ggX0_sendReturn_X0_append
theorem dX0_sendReturn_0 : decode cX0_sendReturn 0 = .ok (.aload_n 0, 1) := by decide +kernel
theorem dX0_sendReturn_1 : decode cX0_sendReturn 1 = .ok (.iload_n 1, 1) := by decide +kernel
theorem dX0_sendReturn_2 : decode cX0_sendReturn 2 = .ok (.bipush (-9), 2) := by decide +kernel
theorem dX0_sendReturn_4 : decode cX0_sendReturn 4 = .ok (.iload_n 2, 1) := by decide +kernel
theorem dX0_sendReturn_5 : decode cX0_sendReturn 5 = .ok (.invokevirtual 25, 3) := by decide +kernel
theorem dX0_sendReturn_8 : decode cX0_sendReturn 8 = .ok (.return_, 1) := by decide +kernel
theorem dX0_append_0 : decode cX0_append 0 = .ok (.aload_n 0, 1) := by decide +kernel
theorem dX0_append_1 : decode cX0_append 1 = .ok (.getfield 21, 3) := by decide +kernel
theorem dX0_append_4 : decode cX0_append 4 = .ok (.sipush 150, 3) := by decide +kernel
theorem dX0_append_7 : decode cX0_append 7 = .ok (.if_icmp .lt 4, 3) := by decide +kernel
theorem dX0_append_10 : decode cX0_append 10 = .ok (.return_, 1) := by decide +kernel
theorem dX0_append_11 : decode cX0_append 11 = .ok (.aload_n 0, 1) := by decide +kernel
theorem dX0_append_12 : decode cX0_append 12 = .ok (.getfield 9, 3) := by decide +kernel
theorem dX0_append_15 : decode cX0_append 15 = .ok (.aload_n 0, 1) := by decide +kernel
theorem dX0_append_16 : decode cX0_append 16 = .ok (.getfield 21, 3) := by decide +kernel
theorem dX0_append_19 : decode cX0_append 19 = .ok (.iload_n 1, 1) := by decide +kernel
theorem dX0_append_20 : decode cX0_append 20 = .ok (.iastore, 1) := by decide +kernel
theorem dX0_append_21 : decode cX0_append 21 = .ok (.aload_n 0, 1) := by decide +kernel
theorem dX0_append_22 : decode cX0_append 22 = .ok (.getfield 15, 3) := by decide +kernel
theorem dX0_append_25 : decode cX0_append 25 = .ok (.aload_n 0, 1) := by decide +kernel
theorem dX0_append_26 : decode cX0_append 26 = .ok (.getfield 21, 3) := by decide +kernel
theorem dX0_append_29 : decode cX0_append 29 = .ok (.iload_n 2, 1) := by decide +kernel
theorem dX0_append_30 : decode cX0_append 30 = .ok (.iastore, 1) := by decide +kernel
theorem dX0_append_31 : decode cX0_append 31 = .ok (.aload_n 0, 1) := by decide +kernel
theorem dX0_append_32 : decode cX0_append 32 = .ok (.getfield 18, 3) := by decide +kernel
theorem dX0_append_35 : decode cX0_append 35 = .ok (.aload_n 0, 1) := by decide +kernel
theorem dX0_append_36 : decode cX0_append 36 = .ok (.getfield 21, 3) := by decide +kernel
theorem dX0_append_39 : decode cX0_append 39 = .ok (.iload_n 3, 1) := by decide +kernel
theorem dX0_append_40 : decode cX0_append 40 = .ok (.iastore, 1) := by decide +kernel
theorem dX0_append_41 : decode cX0_append 41 = .ok (.aload_n 0, 1) := by decide +kernel
theorem dX0_append_42 : decode cX0_append 42 = .ok (.dup, 1) := by decide +kernel
theorem dX0_append_43 : decode cX0_append 43 = .ok (.getfield 21, 3) := by decide +kernel
theorem dX0_append_46 : decode cX0_append 46 = .ok (.iconst 1, 1) := by decide +kernel
theorem dX0_append_47 : decode cX0_append 47 = .ok (.iadd, 1) := by decide +kernel
theorem dX0_append_48 : decode cX0_append 48 = .ok (.putfield 21, 3) := by decide +kernel
theorem dX0_append_51 : decode cX0_append 51 = .ok (.return_, 1) := by decide +kernel
theorem dX0_takeAway_0 : decode cX0_takeAway 0 = .ok (.aload_n 0, 1) := by decide +kernel
theorem dX0_takeAway_1 : decode cX0_takeAway 1 = .ok (.getfield 21, 3) := by decide +kernel
theorem dX0_takeAway_4 : decode cX0_takeAway 4 = .ok (.iload_n 1, 1) := by decide +kernel
theorem dX0_takeAway_5 : decode cX0_takeAway 5 = .ok (.isub, 1) := by decide +kernel
theorem dX0_takeAway_6 : decode cX0_takeAway 6 = .ok (.iconst 1, 1) := by decide +kernel
theorem dX0_takeAway_7 : decode cX0_takeAway 7 = .ok (.isub, 1) := by decide +kernel
theorem dX0_takeAway_8 : decode cX0_takeAway 8 = .ok (.istore_n 2, 1) := by decide +kernel
theorem dX0_takeAway_9 : decode cX0_takeAway 9 = .ok (.aload_n 0, 1) := by decide +kernel
theorem dX0_takeAway_10 : decode cX0_takeAway 10 = .ok (.getfield 9, 3) := by decide +kernel
theorem dX0_takeAway_13 : decode cX0_takeAway 13 = .ok (.iload_n 1, 1) := by decide +kernel
theorem dX0_takeAway_14 : decode cX0_takeAway 14 = .ok (.iconst 1, 1) := by decide +kernel
theorem dX0_takeAway_15 : decode cX0_takeAway 15 = .ok (.iadd, 1) := by decide +kernel
theorem dX0_takeAway_16 : decode cX0_takeAway 16 = .ok (.aload_n 0, 1) := by decide +kernel
theorem dX0_takeAway_17 : decode cX0_takeAway 17 = .ok (.getfield 9, 3) := by decide +kernel
theorem dX0_takeAway_20 : decode cX0_takeAway 20 = .ok (.iload_n 1, 1) := by decide +kernel
theorem dX0_takeAway_21 : decode cX0_takeAway 21 = .ok (.iload_n 2, 1) := by decide +kernel
theorem dX0_takeAway_22 : decode cX0_takeAway 22 = .ok (.invokestatic 29, 3) := by decide +kernel
theorem dX0_takeAway_25 : decode cX0_takeAway 25 = .ok (.aload_n 0, 1) := by decide +kernel
theorem dX0_takeAway_26 : decode cX0_takeAway 26 = .ok (.getfield 15, 3) := by decide +kernel
theorem dX0_takeAway_29 : decode cX0_takeAway 29 = .ok (.iload_n 1, 1) := by decide +kernel
theorem dX0_takeAway_30 : decode cX0_takeAway 30 = .ok (.iconst 1, 1) := by decide +kernel
theorem dX0_takeAway_31 : decode cX0_takeAway 31 = .ok (.iadd, 1) := by decide +kernel
theorem dX0_takeAway_32 : decode cX0_takeAway 32 = .ok (.aload_n 0, 1) := by decide +kernel
theorem dX0_takeAway_33 : decode cX0_takeAway 33 = .ok (.getfield 15, 3) := by decide +kernel
theorem dX0_takeAway_36 : decode cX0_takeAway 36 = .ok (.iload_n 1, 1) := by decide +kernel
theorem dX0_takeAway_37 : decode cX0_takeAway 37 = .ok (.iload_n 2, 1) := by decide +kernel
theorem dX0_takeAway_38 : decode cX0_takeAway 38 = .ok (.invokestatic 29, 3) := by decide +kernel
theorem dX0_takeAway_41 : decode cX0_takeAway 41 = .ok (.aload_n 0, 1) := by decide +kernel
theorem dX0_takeAway_42 : decode cX0_takeAway 42 = .ok (.getfield 18, 3) := by decide +kernel
theorem dX0_takeAway_45 : decode cX0_takeAway 45 = .ok (.iload_n 1, 1) := by decide +kernel
theorem dX0_takeAway_46 : decode cX0_takeAway 46 = .ok (.iconst 1, 1) := by decide +kernel
theorem dX0_takeAway_47 : decode cX0_takeAway 47 = .ok (.iadd, 1) := by decide +kernel
theorem dX0_takeAway_48 : decode cX0_takeAway 48 = .ok (.aload_n 0, 1) := by decide +kernel
theorem dX0_takeAway_49 : decode cX0_takeAway 49 = .ok (.getfield 18, 3) := by decide +kernel
theorem dX0_takeAway_52 : decode cX0_takeAway 52 = .ok (.iload_n 1, 1) := by decide +kernel
theorem dX0_takeAway_53 : decode cX0_takeAway 53 = .ok (.iload_n 2, 1) := by decide +kernel
theorem dX0_takeAway_54 : decode cX0_takeAway 54 = .ok (.invokestatic 29, 3) := by decide +kernel
theorem dX0_takeAway_57 : decode cX0_takeAway 57 = .ok (.aload_n 0, 1) := by decide +kernel
theorem dX0_takeAway_58 : decode cX0_takeAway 58 = .ok (.dup, 1) := by decide +kernel
theorem dX0_takeAway_59 : decode cX0_takeAway 59 = .ok (.getfield 21, 3) := by decide +kernel
theorem dX0_takeAway_62 : decode cX0_takeAway 62 = .ok (.iconst 1, 1) := by decide +kernel
theorem dX0_takeAway_63 : decode cX0_takeAway 63 = .ok (.isub, 1) := by decide +kernel
theorem dX0_takeAway_64 : decode cX0_takeAway 64 = .ok (.putfield 21, 3) := by decide +kernel
theorem dX0_takeAway_67 : decode cX0_takeAway 67 = .ok (.return_, 1) := by decide +kernel
set_option maxRecDepth 20000 in
theorem ggX1_init_J7_fill_53178 : GoodIn wsX1_init wsJ7_fill_53178 := goodIn_r _ [21] (by decide +kernel) (by decide +kernel)
set_option maxRecDepth 20000 in
theorem gX1_init_J7_fill_53178 : GoodIn wsX1_init (va_wsS RX1 22 yJ7_fill_53178 wsJ7_fill_53178) := goodIn_app (goodIn_of _ (by decide +kernel)) ggX1_init_J7_fill_53178
set_option maxRecDepth 20000 in
theorem ggX1_init_X0_init : GoodIn wsX1_init wsX0_init := goodIn_r _ [24, 25, 2, 3, 4, 26, 27, 28, 29, 40, 41, 42, 43] (by decide +kernel) (by decide +kernel)
set_option maxRecDepth 20000 in
theorem gX1_init_X0_init : GoodIn wsX1_init (wsX0_init) := ggX1_init_X0_init
theorem dX1_init_0 : decode cX1_init 0 = .ok (.aload_n 0, 1) := by decide +kernel
theorem dX1_init_1 : decode cX1_init 1 = .ok (.invokespecial 3, 3) := by decide +kernel
theorem dX1_init_4 : decode cX1_init 4 = .ok (.aload_n 0, 1) := by decide +kernel
theorem dX1_init_5 : decode cX1_init 5 = .ok (.bipush 10, 2) := by decide +kernel
theorem dX1_init_7 : decode cX1_init 7 = .ok (.newarray .int, 2) := by decide +kernel
theorem dX1_init_9 : decode cX1_init 9 = .ok (.putfield 9, 3) := by decide +kernel
theorem dX1_init_12 : decode cX1_init 12 = .ok (.aload_n 0, 1) := by decide +kernel
theorem dX1_init_13 : decode cX1_init 13 = .ok (.bipush 10, 2) := by decide +kernel
theorem dX1_init_15 : decode cX1_init 15 = .ok (.newarray .int, 2) := by decide +kernel
theorem dX1_init_17 : decode cX1_init 17 = .ok (.putfield 13, 3) := by decide +kernel
theorem dX1_init_20 : decode cX1_init 20 = .ok (.aload_n 0, 1) := by decide +kernel
theorem dX1_init_21 : decode cX1_init 21 = .ok (.bipush 10, 2) := by decide +kernel
theorem dX1_init_23 : decode cX1_init 23 = .ok (.newarray .int, 2) := by decide +kernel
theorem dX1_init_25 : decode cX1_init 25 = .ok (.putfield 16, 3) := by decide +kernel
theorem dX1_init_28 : decode cX1_init 28 = .ok (.aload_n 0, 1) := by decide +kernel
theorem dX1_init_29 : decode cX1_init 29 = .ok (.bipush 100, 2) := by decide +kernel
theorem dX1_init_31 : decode cX1_init 31 = .ok (.newarray .int, 2) := by decide +kernel
theorem dX1_init_33 : decode cX1_init 33 = .ok (.putfield 19, 3) := by decide +kernel
theorem dX1_init_36 : decode cX1_init 36 = .ok (.aload_n 0, 1) := by decide +kernel
theorem dX1_init_37 : decode cX1_init 37 = .ok (.getfield 19, 3) := by decide +kernel
theorem dX1_init_40 : decode cX1_init 40 = .ok (.bipush (-9), 2) := by decide +kernel
theorem dX1_init_42 : decode cX1_init 42 = .ok (.invokestatic 22, 3) := by decide +kernel
theorem dX1_init_45 : decode cX1_init 45 = .ok (.aload_n 0, 1) := by decide +kernel
theorem dX1_init_46 : decode cX1_init 46 = .ok (.new 28, 3) := by decide +kernel
theorem dX1_init_49 : decode cX1_init 49 = .ok (.dup, 1) := by decide +kernel
theorem dX1_init_50 : decode cX1_init 50 = .ok (.invokespecial 30, 3) := by decide +kernel
theorem dX1_init_53 : decode cX1_init 53 = .ok (.putfield 31, 3) := by decide +kernel
theorem dX1_init_56 : decode cX1_init 56 = .ok (.aload_n 0, 1) := by decide +kernel
theorem dX1_init_57 : decode cX1_init 57 = .ok (.iconst 0, 1) := by decide +kernel
theorem dX1_init_58 : decode cX1_init 58 = .ok (.putfield 35, 3) := by decide +kernel
theorem dX1_init_61 : decode cX1_init 61 = .ok (.aload_n 0, 1) := by decide +kernel
theorem dX1_init_62 : decode cX1_init 62 = .ok (.iconst 0, 1) := by decide +kernel
theorem dX1_init_63 : decode cX1_init 63 = .ok (.putfield 39, 3) := by decide +kernel
theorem dX1_init_66 : decode cX1_init 66 = .ok (.aload_n 0, 1) := by decide +kernel
theorem dX1_init_67 : decode cX1_init 67 = .ok (.iconst 0, 1) := by decide +kernel
theorem dX1_init_68 : decode cX1_init 68 = .ok (.putfield 42, 3) := by decide +kernel
theorem dX1_init_71 : decode cX1_init 71 = .ok (.aload_n 0, 1) := by decide +kernel
theorem dX1_init_72 : decode cX1_init 72 = .ok (.iconst 0, 1) := by decide +kernel
theorem dX1_init_73 : decode cX1_init 73 = .ok (.putfield 45, 3) := by decide +kernel
theorem dX1_init_76 : decode cX1_init 76 = .ok (.aload_n 0, 1) := by decide +kernel
theorem dX1_init_77 : decode cX1_init 77 = .ok (.iconst 0, 1) := by decide +kernel
theorem dX1_init_78 : decode cX1_init 78 = .ok (.putfield 48, 3) := by decide +kernel
theorem dX1_init_81 : decode cX1_init 81 = .ok (.return_, 1) := by decide +kernel
set_option maxRecDepth 20000 in
theorem ggX1_object_X1_isHost : GoodIn wsX1_object wsX1_isHost := goodIn_r _ [8] (by decide +kernel) (by decide +kernel)
set_option maxRecDepth 20000 in
theorem gX1_object_X1_isHost : GoodIn wsX1_object (va_wsS RX1 51 yX1_isHost wsX1_isHost) := goodIn_app (goodIn_of _ (by decide +kernel)) ggX1_object_X1_isHost
set_option maxRecDepth 20000 in
theorem ggX1_object_X1_isDead : GoodIn wsX1_object wsX1_isDead := goodIn_r _ [12, 13, 14, 15, 7, 16, 17, 18, 19, 20, 21, 22, 23, 24, 25, 26, 27, 28, 29] (by decide +kernel) (by decide +kernel)
set_option maxRecDepth 20000 in
theorem gX1_object_X1_isDead : GoodIn wsX1_object (wsV RX1 55 RX1 yX1_isDead wsX1_isDead) := goodIn_app (goodIn_of _ (by decide +kernel)) ggX1_object_X1_isDead
set_option maxRecDepth 20000 in
theorem ggX1_object_X1_bit : GoodIn wsX1_object wsX1_bit := goodIn_r _ [19] (by decide +kernel) (by decide +kernel)
set_option maxRecDepth 20000 in
theorem gX1_object_X1_bit : GoodIn wsX1_object (va_wsS RX1 58 yX1_bit wsX1_bit) := goodIn_app (goodIn_of _ (by decide +kernel)) ggX1_object_X1_bit
theorem dX1_object_0 : decode cX1_object 0 = .ok (.iload_n 1, 1) := by decide +kernel
theorem dX1_object_1 : decode cX1_object 1 = .ok (.invokestatic 51, 3) := by decide +kernel
theorem dX1_object_4 : decode cX1_object 4 = .ok (.ifCond .ne 5, 3) := by decide +kernel
theorem dX1_object_7 : decode cX1_object 7 = .ok (.iconst (-1), 1) := by decide +kernel
theorem dX1_object_8 : decode cX1_object 8 = .ok (.ireturn, 1) := by decide +kernel
theorem dX1_object_9 : decode cX1_object 9 = .ok (.aload_n 0, 1) := by decide +kernel
theorem dX1_object_10 : decode cX1_object 10 = .ok (.iload_n 1, 1) := by decide +kernel
theorem dX1_object_11 : decode cX1_object 11 = .ok (.invokevirtual 55, 3) := by decide +kernel
theorem dX1_object_14 : decode cX1_object 14 = .ok (.ifCond .eq 6, 3) := by decide +kernel
theorem dX1_object_17 : decode cX1_object 17 = .ok (.bipush (-3), 2) := by decide +kernel
theorem dX1_object_19 : decode cX1_object 19 = .ok (.ireturn, 1) := by decide +kernel
theorem dX1_object_20 : decode cX1_object 20 = .ok (.aload_n 0, 1) := by decide +kernel
theorem dX1_object_21 : decode cX1_object 21 = .ok (.getfield 35, 3) := by decide +kernel
theorem dX1_object_24 : decode cX1_object 24 = .ok (.bipush 10, 2) := by decide +kernel
theorem dX1_object_26 : decode cX1_object 26 = .ok (.if_icmp .lt 6, 3) := by decide +kernel
theorem dX1_object_29 : decode cX1_object 29 = .ok (.bipush (-4), 2) := by decide +kernel
theorem dX1_object_31 : decode cX1_object 31 = .ok (.ireturn, 1) := by decide +kernel
theorem dX1_object_32 : decode cX1_object 32 = .ok (.aload_n 0, 1) := by decide +kernel
theorem dX1_object_33 : decode cX1_object 33 = .ok (.getfield 35, 3) := by decide +kernel
theorem dX1_object_36 : decode cX1_object 36 = .ok (.istore_n 3, 1) := by decide +kernel
theorem dX1_object_37 : decode cX1_object 37 = .ok (.aload_n 0, 1) := by decide +kernel
theorem dX1_object_38 : decode cX1_object 38 = .ok (.dup, 1) := by decide +kernel
theorem dX1_object_39 : decode cX1_object 39 = .ok (.getfield 35, 3) := by decide +kernel
theorem dX1_object_42 : decode cX1_object 42 = .ok (.iconst 1, 1) := by decide +kernel
theorem dX1_object_43 : decode cX1_object 43 = .ok (.iadd, 1) := by decide +kernel
theorem dX1_object_44 : decode cX1_object 44 = .ok (.putfield 35, 3) := by decide +kernel
theorem dX1_object_47 : decode cX1_object 47 = .ok (.aload_n 0, 1) := by decide +kernel
theorem dX1_object_48 : decode cX1_object 48 = .ok (.getfield 9, 3) := by decide +kernel
theorem dX1_object_51 : decode cX1_object 51 = .ok (.iload_n 3, 1) := by decide +kernel
theorem dX1_object_52 : decode cX1_object 52 = .ok (.iload_n 1, 1) := by decide +kernel
theorem dX1_object_53 : decode cX1_object 53 = .ok (.iastore, 1) := by decide +kernel
theorem dX1_object_54 : decode cX1_object 54 = .ok (.aload_n 0, 1) := by decide +kernel
theorem dX1_object_55 : decode cX1_object 55 = .ok (.dup, 1) := by decide +kernel
theorem dX1_object_56 : decode cX1_object 56 = .ok (.getfield 39, 3) := by decide +kernel
theorem dX1_object_59 : decode cX1_object 59 = .ok (.iload_n 3, 1) := by decide +kernel
theorem dX1_object_60 : decode cX1_object 60 = .ok (.invokestatic 58, 3) := by decide +kernel
theorem dX1_object_63 : decode cX1_object 63 = .ok (.ior, 1) := by decide +kernel
theorem dX1_object_64 : decode cX1_object 64 = .ok (.putfield 39, 3) := by decide +kernel
theorem dX1_object_67 : decode cX1_object 67 = .ok (.iload_n 2, 1) := by decide +kernel
theorem dX1_object_68 : decode cX1_object 68 = .ok (.ifCond .eq 16, 3) := by decide +kernel
theorem dX1_object_71 : decode cX1_object 71 = .ok (.aload_n 0, 1) := by decide +kernel
theorem dX1_object_72 : decode cX1_object 72 = .ok (.dup, 1) := by decide +kernel
theorem dX1_object_73 : decode cX1_object 73 = .ok (.getfield 42, 3) := by decide +kernel
theorem dX1_object_76 : decode cX1_object 76 = .ok (.iload_n 3, 1) := by decide +kernel
theorem dX1_object_77 : decode cX1_object 77 = .ok (.invokestatic 58, 3) := by decide +kernel
theorem dX1_object_80 : decode cX1_object 80 = .ok (.ior, 1) := by decide +kernel
theorem dX1_object_81 : decode cX1_object 81 = .ok (.putfield 42, 3) := by decide +kernel
theorem dX1_object_84 : decode cX1_object 84 = .ok (.iload_n 3, 1) := by decide +kernel
theorem dX1_object_85 : decode cX1_object 85 = .ok (.ireturn, 1) := by decide +kernel
set_option maxRecDepth 20000 in
theorem ggX1_root_X1_isObject : GoodIn wsX1_root wsX1_isObject := goodIn_r _ [6, 7, 19, 20, 21, 22, 23, 24, 25, 26, 27, 28] (by decide +kernel) (by decide +kernel)
set_option maxRecDepth 20000 in
theorem gX1_root_X1_isObject : GoodIn wsX1_root (wsV RX1 62 RX1 yX1_isObject wsX1_isObject) := goodIn_app (goodIn_of _ (by decide +kernel)) ggX1_root_X1_isObject
set_option maxRecDepth 20000 in
theorem ggX1_root_X1_isLive : GoodIn wsX1_root wsX1_isLive := goodIn_r _ [11, 12, 13, 14, 5, 15, 16, 17, 18, 19, 20, 21, 22, 23, 24, 25, 26, 27, 28] (by decide +kernel) (by decide +kernel)
set_option maxRecDepth 20000 in
theorem gX1_root_X1_isLive : GoodIn wsX1_root (wsV RX1 65 RX1 yX1_isLive wsX1_isLive) := goodIn_app (goodIn_of _ (by decide +kernel)) ggX1_root_X1_isLive
set_option maxRecDepth 20000 in
theorem ggX1_root_X1_isIn : GoodIn wsX1_root wsX1_isIn := goodIn_r _ [15, 16, 17, 5, 18] (by decide +kernel) (by decide +kernel)
set_option maxRecDepth 20000 in
theorem gX1_root_X1_isIn : GoodIn wsX1_root (va_wsS RX1 68 yX1_isIn wsX1_isIn) := goodIn_app (goodIn_of _ (by decide +kernel)) ggX1_root_X1_isIn
set_option maxRecDepth 20000 in
theorem ggX1_root_X1_bit : GoodIn wsX1_root wsX1_bit := goodIn_r _ [18] (by decide +kernel) (by decide +kernel)
set_option maxRecDepth 20000 in
theorem gX1_root_X1_bit : GoodIn wsX1_root (va_wsS RX1 58 yX1_bit wsX1_bit) := goodIn_app (goodIn_of _ (by decide +kernel)) ggX1_root_X1_bit
theorem dX1_root_0 : decode cX1_root 0 = .ok (.aload_n 0, 1) := by decide +kernel
theorem dX1_root_1 : decode cX1_root 1 = .ok (.iload_n 1, 1) := by decide +kernel
theorem dX1_root_2 : decode cX1_root 2 = .ok (.invokevirtual 62, 3) := by decide +kernel
theorem dX1_root_5 : decode cX1_root 5 = .ok (.ifCond .ne 5, 3) := by decide +kernel
theorem dX1_root_8 : decode cX1_root 8 = .ok (.iconst (-1), 1) := by decide +kernel
theorem dX1_root_9 : decode cX1_root 9 = .ok (.ireturn, 1) := by decide +kernel
theorem dX1_root_10 : decode cX1_root 10 = .ok (.aload_n 0, 1) := by decide +kernel
theorem dX1_root_11 : decode cX1_root 11 = .ok (.iload_n 1, 1) := by decide +kernel
theorem dX1_root_12 : decode cX1_root 12 = .ok (.invokevirtual 65, 3) := by decide +kernel
theorem dX1_root_15 : decode cX1_root 15 = .ok (.ifCond .ne 6, 3) := by decide +kernel
theorem dX1_root_18 : decode cX1_root 18 = .ok (.bipush (-3), 2) := by decide +kernel
theorem dX1_root_20 : decode cX1_root 20 = .ok (.ireturn, 1) := by decide +kernel
theorem dX1_root_21 : decode cX1_root 21 = .ok (.aload_n 0, 1) := by decide +kernel
theorem dX1_root_22 : decode cX1_root 22 = .ok (.getfield 42, 3) := by decide +kernel
theorem dX1_root_25 : decode cX1_root 25 = .ok (.iload_n 1, 1) := by decide +kernel
theorem dX1_root_26 : decode cX1_root 26 = .ok (.invokestatic 68, 3) := by decide +kernel
theorem dX1_root_29 : decode cX1_root 29 = .ok (.iload_n 2, 1) := by decide +kernel
theorem dX1_root_30 : decode cX1_root 30 = .ok (.if_icmp .ne 5, 3) := by decide +kernel
theorem dX1_root_33 : decode cX1_root 33 = .ok (.iconst 0, 1) := by decide +kernel
theorem dX1_root_34 : decode cX1_root 34 = .ok (.ireturn, 1) := by decide +kernel
theorem dX1_root_35 : decode cX1_root 35 = .ok (.aload_n 0, 1) := by decide +kernel
theorem dX1_root_36 : decode cX1_root 36 = .ok (.dup, 1) := by decide +kernel
theorem dX1_root_37 : decode cX1_root 37 = .ok (.getfield 42, 3) := by decide +kernel
theorem dX1_root_40 : decode cX1_root 40 = .ok (.iload_n 1, 1) := by decide +kernel
theorem dX1_root_41 : decode cX1_root 41 = .ok (.invokestatic 58, 3) := by decide +kernel
theorem dX1_root_44 : decode cX1_root 44 = .ok (.ixor, 1) := by decide +kernel
theorem dX1_root_45 : decode cX1_root 45 = .ok (.putfield 42, 3) := by decide +kernel
theorem dX1_root_48 : decode cX1_root 48 = .ok (.iconst 1, 1) := by decide +kernel
theorem dX1_root_49 : decode cX1_root 49 = .ok (.ireturn, 1) := by decide +kernel
set_option maxRecDepth 20000 in
theorem ggX1_link_X1_isObject : GoodIn wsX1_link wsX1_isObject := goodIn_r _ [7, 8, 38, 39, 40, 41, 42, 43, 44, 45, 46, 47] (by decide +kernel) (by decide +kernel)
set_option maxRecDepth 20000 in
theorem gX1_link_X1_isObject : GoodIn wsX1_link (wsV RX1 62 RX1 yX1_isObject wsX1_isObject) := goodIn_app (goodIn_of _ (by decide +kernel)) ggX1_link_X1_isObject
set_option maxRecDepth 20000 in
theorem ggX1_link_X1_isLive : GoodIn wsX1_link wsX1_isLive := goodIn_r _ [12, 13, 14, 15, 6, 16, 17, 18, 19, 38, 39, 40, 41, 42, 43, 44, 45, 46, 47] (by decide +kernel) (by decide +kernel)
set_option maxRecDepth 20000 in
theorem gX1_link_X1_isLive : GoodIn wsX1_link (wsV RX1 65 RX1 yX1_isLive wsX1_isLive) := goodIn_app (goodIn_of _ (by decide +kernel)) ggX1_link_X1_isLive
set_option maxRecDepth 20000 in
theorem ggX1_link_X1_onOneHost : GoodIn wsX1_link wsX1_onOneHost := goodIn_r _ [23, 24, 38, 39, 40, 41, 42, 43, 44, 45, 46, 47] (by decide +kernel) (by decide +kernel)
set_option maxRecDepth 20000 in
theorem gX1_link_X1_onOneHost : GoodIn wsX1_link (wsV RX1 72 RX1 yX1_onOneHost wsX1_onOneHost) := goodIn_app (goodIn_of _ (by decide +kernel)) ggX1_link_X1_onOneHost
set_option maxRecDepth 20000 in
theorem ggX1_link_X1_isIn : GoodIn wsX1_link wsX1_isIn := goodIn_r _ [16, 17, 18, 6, 19] (by decide +kernel) (by decide +kernel)
set_option maxRecDepth 20000 in
theorem gX1_link_X1_isIn : GoodIn wsX1_link (va_wsS RX1 68 yX1_isIn wsX1_isIn) := goodIn_app (goodIn_of _ (by decide +kernel)) ggX1_link_X1_isIn
set_option maxRecDepth 20000 in
theorem ggX1_link_X1_hasLink : GoodIn wsX1_link wsX1_hasLink := goodIn_r _ [28, 29, 30, 31, 6, 32, 38, 39, 40, 41, 42, 43, 44, 45, 46, 47] (by decide +kernel) (by decide +kernel)
set_option maxRecDepth 20000 in
theorem gX1_link_X1_hasLink : GoodIn wsX1_link (wsV RX1 75 RX1 yX1_hasLink wsX1_hasLink) := goodIn_app (goodIn_of _ (by decide +kernel)) ggX1_link_X1_hasLink
set_option maxRecDepth 20000 in
theorem ggX1_link_X1_addLink : GoodIn wsX1_link wsX1_addLink := goodIn_r _ [36, 29, 37, 25, 26, 27, 6, 28, 30, 31, 32, 38, 39, 40, 41, 42, 43, 44, 45, 46, 47] (by decide +kernel) (by decide +kernel)
set_option maxRecDepth 20000 in
theorem gX1_link_X1_addLink : GoodIn wsX1_link (wsV RX1 78 RX1 yX1_addLink wsX1_addLink) := goodIn_app (goodIn_of _ (by decide +kernel)) ggX1_link_X1_addLink
theorem dX1_link_0 : decode cX1_link 0 = .ok (.aload_n 0, 1) := by decide +kernel
theorem dX1_link_1 : decode cX1_link 1 = .ok (.iload_n 1, 1) := by decide +kernel
theorem dX1_link_2 : decode cX1_link 2 = .ok (.invokevirtual 62, 3) := by decide +kernel
theorem dX1_link_5 : decode cX1_link 5 = .ok (.ifCond .eq 11, 3) := by decide +kernel
theorem dX1_link_8 : decode cX1_link 8 = .ok (.aload_n 0, 1) := by decide +kernel
theorem dX1_link_9 : decode cX1_link 9 = .ok (.iload_n 2, 1) := by decide +kernel
theorem dX1_link_10 : decode cX1_link 10 = .ok (.invokevirtual 62, 3) := by decide +kernel
theorem dX1_link_13 : decode cX1_link 13 = .ok (.ifCond .ne 5, 3) := by decide +kernel
theorem dX1_link_16 : decode cX1_link 16 = .ok (.iconst (-1), 1) := by decide +kernel
theorem dX1_link_17 : decode cX1_link 17 = .ok (.ireturn, 1) := by decide +kernel
theorem dX1_link_18 : decode cX1_link 18 = .ok (.iload_n 1, 1) := by decide +kernel
theorem dX1_link_19 : decode cX1_link 19 = .ok (.iload_n 2, 1) := by decide +kernel
theorem dX1_link_20 : decode cX1_link 20 = .ok (.if_icmp .eq 19, 3) := by decide +kernel
theorem dX1_link_23 : decode cX1_link 23 = .ok (.aload_n 0, 1) := by decide +kernel
theorem dX1_link_24 : decode cX1_link 24 = .ok (.iload_n 1, 1) := by decide +kernel
theorem dX1_link_25 : decode cX1_link 25 = .ok (.invokevirtual 65, 3) := by decide +kernel
theorem dX1_link_28 : decode cX1_link 28 = .ok (.ifCond .eq 11, 3) := by decide +kernel
theorem dX1_link_31 : decode cX1_link 31 = .ok (.aload_n 0, 1) := by decide +kernel
theorem dX1_link_32 : decode cX1_link 32 = .ok (.iload_n 2, 1) := by decide +kernel
theorem dX1_link_33 : decode cX1_link 33 = .ok (.invokevirtual 65, 3) := by decide +kernel
theorem dX1_link_36 : decode cX1_link 36 = .ok (.ifCond .ne 6, 3) := by decide +kernel
theorem dX1_link_39 : decode cX1_link 39 = .ok (.bipush (-3), 2) := by decide +kernel
theorem dX1_link_41 : decode cX1_link 41 = .ok (.ireturn, 1) := by decide +kernel
theorem dX1_link_42 : decode cX1_link 42 = .ok (.aload_n 0, 1) := by decide +kernel
theorem dX1_link_43 : decode cX1_link 43 = .ok (.iload_n 1, 1) := by decide +kernel
theorem dX1_link_44 : decode cX1_link 44 = .ok (.iload_n 2, 1) := by decide +kernel
theorem dX1_link_45 : decode cX1_link 45 = .ok (.invokevirtual 72, 3) := by decide +kernel
theorem dX1_link_48 : decode cX1_link 48 = .ok (.istore_n 3, 1) := by decide +kernel
theorem dX1_link_49 : decode cX1_link 49 = .ok (.iload_n 3, 1) := by decide +kernel
theorem dX1_link_50 : decode cX1_link 50 = .ok (.ifCond .ne 17, 3) := by decide +kernel
theorem dX1_link_53 : decode cX1_link 53 = .ok (.aload_n 0, 1) := by decide +kernel
theorem dX1_link_54 : decode cX1_link 54 = .ok (.getfield 42, 3) := by decide +kernel
theorem dX1_link_57 : decode cX1_link 57 = .ok (.iload_n 2, 1) := by decide +kernel
theorem dX1_link_58 : decode cX1_link 58 = .ok (.invokestatic 68, 3) := by decide +kernel
theorem dX1_link_61 : decode cX1_link 61 = .ok (.ifCond .ne 6, 3) := by decide +kernel
theorem dX1_link_64 : decode cX1_link 64 = .ok (.bipush (-3), 2) := by decide +kernel
theorem dX1_link_66 : decode cX1_link 66 = .ok (.ireturn, 1) := by decide +kernel
theorem dX1_link_67 : decode cX1_link 67 = .ok (.aload_n 0, 1) := by decide +kernel
theorem dX1_link_68 : decode cX1_link 68 = .ok (.iload_n 1, 1) := by decide +kernel
theorem dX1_link_69 : decode cX1_link 69 = .ok (.iload_n 2, 1) := by decide +kernel
theorem dX1_link_70 : decode cX1_link 70 = .ok (.invokevirtual 75, 3) := by decide +kernel
theorem dX1_link_73 : decode cX1_link 73 = .ok (.ifCond .eq 5, 3) := by decide +kernel
theorem dX1_link_76 : decode cX1_link 76 = .ok (.iconst 0, 1) := by decide +kernel
theorem dX1_link_77 : decode cX1_link 77 = .ok (.ireturn, 1) := by decide +kernel
theorem dX1_link_78 : decode cX1_link 78 = .ok (.iload_n 3, 1) := by decide +kernel
theorem dX1_link_79 : decode cX1_link 79 = .ok (.ifCond .eq 13, 3) := by decide +kernel
theorem dX1_link_82 : decode cX1_link 82 = .ok (.aload_n 0, 1) := by decide +kernel
theorem dX1_link_83 : decode cX1_link 83 = .ok (.iload_n 1, 1) := by decide +kernel
theorem dX1_link_84 : decode cX1_link 84 = .ok (.iload_n 2, 1) := by decide +kernel
theorem dX1_link_85 : decode cX1_link 85 = .ok (.iconst 0, 1) := by decide +kernel
theorem dX1_link_86 : decode cX1_link 86 = .ok (.invokevirtual 78, 3) := by decide +kernel
theorem dX1_link_89 : decode cX1_link 89 = .ok (.goto 22, 3) := by decide +kernel
theorem dX1_link_92 : decode cX1_link 92 = .ok (.aload_n 0, 1) := by decide +kernel
theorem dX1_link_93 : decode cX1_link 93 = .ok (.getfield 13, 3) := by decide +kernel
theorem dX1_link_96 : decode cX1_link 96 = .ok (.iload_n 2, 1) := by decide +kernel
theorem dX1_link_97 : decode cX1_link 97 = .ok (.dup2, 1) := by decide +kernel
theorem dX1_link_98 : decode cX1_link 98 = .ok (.iaload, 1) := by decide +kernel
theorem dX1_link_99 : decode cX1_link 99 = .ok (.bipush 64, 2) := by decide +kernel
theorem dX1_link_101 : decode cX1_link 101 = .ok (.iadd, 1) := by decide +kernel
theorem dX1_link_102 : decode cX1_link 102 = .ok (.iastore, 1) := by decide +kernel
theorem dX1_link_103 : decode cX1_link 103 = .ok (.aload_n 0, 1) := by decide +kernel
theorem dX1_link_104 : decode cX1_link 104 = .ok (.iload_n 1, 1) := by decide +kernel
theorem dX1_link_105 : decode cX1_link 105 = .ok (.iload_n 2, 1) := by decide +kernel
theorem dX1_link_106 : decode cX1_link 106 = .ok (.bipush 64, 2) := by decide +kernel
theorem dX1_link_108 : decode cX1_link 108 = .ok (.invokevirtual 78, 3) := by decide +kernel
theorem dX1_link_111 : decode cX1_link 111 = .ok (.iconst 1, 1) := by decide +kernel
theorem dX1_link_112 : decode cX1_link 112 = .ok (.ireturn, 1) := by decide +kernel
set_option maxRecDepth 20000 in
theorem ggX1_unlink_X1_isObject : GoodIn wsX1_unlink wsX1_isObject := goodIn_r _ [7, 8, 29, 30, 31, 32, 33, 34, 35, 36, 37, 38] (by decide +kernel) (by decide +kernel)
set_option maxRecDepth 20000 in
theorem gX1_unlink_X1_isObject : GoodIn wsX1_unlink (wsV RX1 62 RX1 yX1_isObject wsX1_isObject) := goodIn_app (goodIn_of _ (by decide +kernel)) ggX1_unlink_X1_isObject
set_option maxRecDepth 20000 in
theorem ggX1_unlink_X1_hasLink : GoodIn wsX1_unlink wsX1_hasLink := goodIn_r _ [12, 1, 13, 14, 6, 15, 29, 30, 31, 32, 33, 34, 35, 36, 37, 38] (by decide +kernel) (by decide +kernel)
set_option maxRecDepth 20000 in
theorem gX1_unlink_X1_hasLink : GoodIn wsX1_unlink (wsV RX1 75 RX1 yX1_hasLink wsX1_hasLink) := goodIn_app (goodIn_of _ (by decide +kernel)) ggX1_unlink_X1_hasLink
set_option maxRecDepth 20000 in
theorem ggX1_unlink_X1_at : GoodIn wsX1_unlink wsX1_at := goodIn_r _ [15] (by decide +kernel) (by decide +kernel)
set_option maxRecDepth 20000 in
theorem gX1_unlink_X1_at : GoodIn wsX1_unlink (va_wsS RX1 82 yX1_at wsX1_at) := goodIn_app (goodIn_of _ (by decide +kernel)) ggX1_unlink_X1_at
set_option maxRecDepth 20000 in
theorem ggX1_unlink_X0_sendReturn : GoodIn wsX1_unlink wsX0_sendReturn := goodIn_r _ [20, 21, 22, 23, 19, 24, 25, 26, 27, 28, 39, 40, 41, 42] (by decide +kernel) (by decide +kernel)
set_option maxRecDepth 20000 in
theorem gX1_unlink_X0_sendReturn : GoodIn wsX1_unlink (wsV RX1 89 RX0 yX0_sendReturn wsX0_sendReturn) := goodIn_app (goodIn_of _ (by decide +kernel)) ggX1_unlink_X0_sendReturn
theorem dX1_unlink_0 : decode cX1_unlink 0 = .ok (.aload_n 0, 1) := by decide +kernel
theorem dX1_unlink_1 : decode cX1_unlink 1 = .ok (.iload_n 1, 1) := by decide +kernel
theorem dX1_unlink_2 : decode cX1_unlink 2 = .ok (.invokevirtual 62, 3) := by decide +kernel
theorem dX1_unlink_5 : decode cX1_unlink 5 = .ok (.ifCond .eq 11, 3) := by decide +kernel
theorem dX1_unlink_8 : decode cX1_unlink 8 = .ok (.aload_n 0, 1) := by decide +kernel
theorem dX1_unlink_9 : decode cX1_unlink 9 = .ok (.iload_n 2, 1) := by decide +kernel
theorem dX1_unlink_10 : decode cX1_unlink 10 = .ok (.invokevirtual 62, 3) := by decide +kernel
theorem dX1_unlink_13 : decode cX1_unlink 13 = .ok (.ifCond .ne 5, 3) := by decide +kernel
theorem dX1_unlink_16 : decode cX1_unlink 16 = .ok (.iconst (-1), 1) := by decide +kernel
theorem dX1_unlink_17 : decode cX1_unlink 17 = .ok (.ireturn, 1) := by decide +kernel
theorem dX1_unlink_18 : decode cX1_unlink 18 = .ok (.aload_n 0, 1) := by decide +kernel
theorem dX1_unlink_19 : decode cX1_unlink 19 = .ok (.iload_n 1, 1) := by decide +kernel
theorem dX1_unlink_20 : decode cX1_unlink 20 = .ok (.iload_n 2, 1) := by decide +kernel
theorem dX1_unlink_21 : decode cX1_unlink 21 = .ok (.invokevirtual 75, 3) := by decide +kernel
theorem dX1_unlink_24 : decode cX1_unlink 24 = .ok (.ifCond .ne 6, 3) := by decide +kernel
theorem dX1_unlink_27 : decode cX1_unlink 27 = .ok (.bipush (-3), 2) := by decide +kernel
theorem dX1_unlink_29 : decode cX1_unlink 29 = .ok (.ireturn, 1) := by decide +kernel
theorem dX1_unlink_30 : decode cX1_unlink 30 = .ok (.aload_n 0, 1) := by decide +kernel
theorem dX1_unlink_31 : decode cX1_unlink 31 = .ok (.getfield 19, 3) := by decide +kernel
theorem dX1_unlink_34 : decode cX1_unlink 34 = .ok (.iload_n 1, 1) := by decide +kernel
theorem dX1_unlink_35 : decode cX1_unlink 35 = .ok (.iload_n 2, 1) := by decide +kernel
theorem dX1_unlink_36 : decode cX1_unlink 36 = .ok (.invokestatic 82, 3) := by decide +kernel
theorem dX1_unlink_39 : decode cX1_unlink 39 = .ok (.iaload, 1) := by decide +kernel
theorem dX1_unlink_40 : decode cX1_unlink 40 = .ok (.istore_n 3, 1) := by decide +kernel
theorem dX1_unlink_41 : decode cX1_unlink 41 = .ok (.iload_n 3, 1) := by decide +kernel
theorem dX1_unlink_42 : decode cX1_unlink 42 = .ok (.ifCond .ne 17, 3) := by decide +kernel
theorem dX1_unlink_45 : decode cX1_unlink 45 = .ok (.aload_n 0, 1) := by decide +kernel
theorem dX1_unlink_46 : decode cX1_unlink 46 = .ok (.getfield 19, 3) := by decide +kernel
theorem dX1_unlink_49 : decode cX1_unlink 49 = .ok (.iload_n 1, 1) := by decide +kernel
theorem dX1_unlink_50 : decode cX1_unlink 50 = .ok (.iload_n 2, 1) := by decide +kernel
theorem dX1_unlink_51 : decode cX1_unlink 51 = .ok (.invokestatic 82, 3) := by decide +kernel
theorem dX1_unlink_54 : decode cX1_unlink 54 = .ok (.bipush (-9), 2) := by decide +kernel
theorem dX1_unlink_56 : decode cX1_unlink 56 = .ok (.iastore, 1) := by decide +kernel
theorem dX1_unlink_57 : decode cX1_unlink 57 = .ok (.iconst 0, 1) := by decide +kernel
theorem dX1_unlink_58 : decode cX1_unlink 58 = .ok (.ireturn, 1) := by decide +kernel
theorem dX1_unlink_59 : decode cX1_unlink 59 = .ok (.aload_n 0, 1) := by decide +kernel
theorem dX1_unlink_60 : decode cX1_unlink 60 = .ok (.getfield 31, 3) := by decide +kernel
theorem dX1_unlink_63 : decode cX1_unlink 63 = .ok (.getfield 86, 3) := by decide +kernel
theorem dX1_unlink_66 : decode cX1_unlink 66 = .ok (.bipush 60, 2) := by decide +kernel
theorem dX1_unlink_68 : decode cX1_unlink 68 = .ok (.if_icmp .lt 6, 3) := by decide +kernel
theorem dX1_unlink_71 : decode cX1_unlink 71 = .ok (.bipush (-4), 2) := by decide +kernel
theorem dX1_unlink_73 : decode cX1_unlink 73 = .ok (.ireturn, 1) := by decide +kernel
theorem dX1_unlink_74 : decode cX1_unlink 74 = .ok (.aload_n 0, 1) := by decide +kernel
theorem dX1_unlink_75 : decode cX1_unlink 75 = .ok (.getfield 19, 3) := by decide +kernel
theorem dX1_unlink_78 : decode cX1_unlink 78 = .ok (.iload_n 1, 1) := by decide +kernel
theorem dX1_unlink_79 : decode cX1_unlink 79 = .ok (.iload_n 2, 1) := by decide +kernel
theorem dX1_unlink_80 : decode cX1_unlink 80 = .ok (.invokestatic 82, 3) := by decide +kernel
theorem dX1_unlink_83 : decode cX1_unlink 83 = .ok (.bipush (-9), 2) := by decide +kernel
theorem dX1_unlink_85 : decode cX1_unlink 85 = .ok (.iastore, 1) := by decide +kernel
theorem dX1_unlink_86 : decode cX1_unlink 86 = .ok (.aload_n 0, 1) := by decide +kernel
theorem dX1_unlink_87 : decode cX1_unlink 87 = .ok (.getfield 31, 3) := by decide +kernel
theorem dX1_unlink_90 : decode cX1_unlink 90 = .ok (.iload_n 2, 1) := by decide +kernel
theorem dX1_unlink_91 : decode cX1_unlink 91 = .ok (.iload_n 3, 1) := by decide +kernel
theorem dX1_unlink_92 : decode cX1_unlink 92 = .ok (.invokevirtual 89, 3) := by decide +kernel
theorem dX1_unlink_95 : decode cX1_unlink 95 = .ok (.iconst 1, 1) := by decide +kernel
theorem dX1_unlink_96 : decode cX1_unlink 96 = .ok (.ireturn, 1) := by decide +kernel
set_option maxRecDepth 20000 in
theorem ggX1_ofObject_X1_isObject : GoodIn wsX1_ofObject wsX1_isObject := goodIn_r _ [9, 10, 38, 39, 40, 41, 42, 43, 44, 45, 46, 47] (by decide +kernel) (by decide +kernel)
set_option maxRecDepth 20000 in
theorem gX1_ofObject_X1_isObject : GoodIn wsX1_ofObject (wsV RX1 62 RX1 yX1_isObject wsX1_isObject) := goodIn_app (goodIn_of _ (by decide +kernel)) ggX1_ofObject_X1_isObject
set_option maxRecDepth 20000 in
theorem ggX1_ofObject_X1_isIn : GoodIn wsX1_ofObject wsX1_isIn := goodIn_r _ [13, 14, 15, 8, 16] (by decide +kernel) (by decide +kernel)
set_option maxRecDepth 20000 in
theorem gX1_ofObject_X1_isIn : GoodIn wsX1_ofObject (va_wsS RX1 68 yX1_isIn wsX1_isIn) := goodIn_app (goodIn_of _ (by decide +kernel)) ggX1_ofObject_X1_isIn
set_option maxRecDepth 20000 in
theorem ggX1_ofObject_X1_isLive : GoodIn wsX1_ofObject wsX1_isLive := goodIn_r _ [20, 21, 11, 12, 8, 13, 14, 15, 16, 38, 39, 40, 41, 42, 43, 44, 45, 46, 47] (by decide +kernel) (by decide +kernel)
set_option maxRecDepth 20000 in
theorem gX1_ofObject_X1_isLive : GoodIn wsX1_ofObject (wsV RX1 65 RX1 yX1_isLive wsX1_isLive) := goodIn_app (goodIn_of _ (by decide +kernel)) ggX1_ofObject_X1_isLive
set_option maxRecDepth 20000 in
theorem ggX1_ofObject_X1_linkedFrom : GoodIn wsX1_ofObject wsX1_linkedFrom := goodIn_r _ [25, 10, 26, 27, 28, 8, 29, 30, 31, 32, 33, 14, 15, 16, 38, 39, 40, 41, 42, 43, 44, 45, 46, 47] (by decide +kernel) (by decide +kernel)
set_option maxRecDepth 20000 in
theorem gX1_ofObject_X1_linkedFrom : GoodIn wsX1_ofObject (wsV RX1 93 RX1 yX1_linkedFrom wsX1_linkedFrom) := goodIn_app (goodIn_of _ (by decide +kernel)) ggX1_ofObject_X1_linkedFrom
set_option maxRecDepth 20000 in
theorem ggX1_ofObject_X1_linkedTo : GoodIn wsX1_ofObject wsX1_linkedTo := goodIn_r _ [37, 10, 26, 27, 28, 8, 29, 30, 31, 32, 33, 14, 15, 16, 38, 39, 40, 41, 42, 43, 44, 45, 46, 47] (by decide +kernel) (by decide +kernel)
set_option maxRecDepth 20000 in
theorem gX1_ofObject_X1_linkedTo : GoodIn wsX1_ofObject (wsV RX1 96 RX1 yX1_linkedTo wsX1_linkedTo) := goodIn_app (goodIn_of _ (by decide +kernel)) ggX1_ofObject_X1_linkedTo
theorem dX1_ofObject_0 : decode cX1_ofObject 0 = .ok (.aload_n 0, 1) := by decide +kernel
theorem dX1_ofObject_1 : decode cX1_ofObject 1 = .ok (.iload_n 1, 1) := by decide +kernel
theorem dX1_ofObject_2 : decode cX1_ofObject 2 = .ok (.invokevirtual 62, 3) := by decide +kernel
theorem dX1_ofObject_5 : decode cX1_ofObject 5 = .ok (.ifCond .ne 5, 3) := by decide +kernel
theorem dX1_ofObject_8 : decode cX1_ofObject 8 = .ok (.iconst (-1), 1) := by decide +kernel
theorem dX1_ofObject_9 : decode cX1_ofObject 9 = .ok (.ireturn, 1) := by decide +kernel
theorem dX1_ofObject_10 : decode cX1_ofObject 10 = .ok (.iload_n 2, 1) := by decide +kernel
theorem dX1_ofObject_11 : decode cX1_ofObject 11 = .ok (.tableswitch 105 0 6 #[41, 48, 65, 79, 86, 93, 99], 41) := by decide +kernel
theorem dX1_ofObject_52 : decode cX1_ofObject 52 = .ok (.aload_n 0, 1) := by decide +kernel
theorem dX1_ofObject_53 : decode cX1_ofObject 53 = .ok (.getfield 9, 3) := by decide +kernel
theorem dX1_ofObject_56 : decode cX1_ofObject 56 = .ok (.iload_n 1, 1) := by decide +kernel
theorem dX1_ofObject_57 : decode cX1_ofObject 57 = .ok (.iaload, 1) := by decide +kernel
theorem dX1_ofObject_58 : decode cX1_ofObject 58 = .ok (.ireturn, 1) := by decide +kernel
theorem dX1_ofObject_59 : decode cX1_ofObject 59 = .ok (.aload_n 0, 1) := by decide +kernel
theorem dX1_ofObject_60 : decode cX1_ofObject 60 = .ok (.getfield 42, 3) := by decide +kernel
theorem dX1_ofObject_63 : decode cX1_ofObject 63 = .ok (.iload_n 1, 1) := by decide +kernel
theorem dX1_ofObject_64 : decode cX1_ofObject 64 = .ok (.invokestatic 68, 3) := by decide +kernel
theorem dX1_ofObject_67 : decode cX1_ofObject 67 = .ok (.ifCond .eq 7, 3) := by decide +kernel
theorem dX1_ofObject_70 : decode cX1_ofObject 70 = .ok (.iconst 1, 1) := by decide +kernel
theorem dX1_ofObject_71 : decode cX1_ofObject 71 = .ok (.goto 4, 3) := by decide +kernel
theorem dX1_ofObject_74 : decode cX1_ofObject 74 = .ok (.iconst 0, 1) := by decide +kernel
theorem dX1_ofObject_75 : decode cX1_ofObject 75 = .ok (.ireturn, 1) := by decide +kernel
theorem dX1_ofObject_76 : decode cX1_ofObject 76 = .ok (.aload_n 0, 1) := by decide +kernel
theorem dX1_ofObject_77 : decode cX1_ofObject 77 = .ok (.iload_n 1, 1) := by decide +kernel
theorem dX1_ofObject_78 : decode cX1_ofObject 78 = .ok (.invokevirtual 65, 3) := by decide +kernel
theorem dX1_ofObject_81 : decode cX1_ofObject 81 = .ok (.ifCond .eq 7, 3) := by decide +kernel
theorem dX1_ofObject_84 : decode cX1_ofObject 84 = .ok (.iconst 1, 1) := by decide +kernel
theorem dX1_ofObject_85 : decode cX1_ofObject 85 = .ok (.goto 4, 3) := by decide +kernel
theorem dX1_ofObject_88 : decode cX1_ofObject 88 = .ok (.iconst 0, 1) := by decide +kernel
theorem dX1_ofObject_89 : decode cX1_ofObject 89 = .ok (.ireturn, 1) := by decide +kernel
theorem dX1_ofObject_90 : decode cX1_ofObject 90 = .ok (.aload_n 0, 1) := by decide +kernel
theorem dX1_ofObject_91 : decode cX1_ofObject 91 = .ok (.getfield 13, 3) := by decide +kernel
theorem dX1_ofObject_94 : decode cX1_ofObject 94 = .ok (.iload_n 1, 1) := by decide +kernel
theorem dX1_ofObject_95 : decode cX1_ofObject 95 = .ok (.iaload, 1) := by decide +kernel
theorem dX1_ofObject_96 : decode cX1_ofObject 96 = .ok (.ireturn, 1) := by decide +kernel
theorem dX1_ofObject_97 : decode cX1_ofObject 97 = .ok (.aload_n 0, 1) := by decide +kernel
theorem dX1_ofObject_98 : decode cX1_ofObject 98 = .ok (.getfield 16, 3) := by decide +kernel
theorem dX1_ofObject_101 : decode cX1_ofObject 101 = .ok (.iload_n 1, 1) := by decide +kernel
theorem dX1_ofObject_102 : decode cX1_ofObject 102 = .ok (.iaload, 1) := by decide +kernel
theorem dX1_ofObject_103 : decode cX1_ofObject 103 = .ok (.ireturn, 1) := by decide +kernel
theorem dX1_ofObject_104 : decode cX1_ofObject 104 = .ok (.aload_n 0, 1) := by decide +kernel
theorem dX1_ofObject_105 : decode cX1_ofObject 105 = .ok (.iload_n 1, 1) := by decide +kernel
theorem dX1_ofObject_106 : decode cX1_ofObject 106 = .ok (.invokevirtual 93, 3) := by decide +kernel
theorem dX1_ofObject_109 : decode cX1_ofObject 109 = .ok (.ireturn, 1) := by decide +kernel
theorem dX1_ofObject_110 : decode cX1_ofObject 110 = .ok (.aload_n 0, 1) := by decide +kernel
theorem dX1_ofObject_111 : decode cX1_ofObject 111 = .ok (.iload_n 1, 1) := by decide +kernel
theorem dX1_ofObject_112 : decode cX1_ofObject 112 = .ok (.invokevirtual 96, 3) := by decide +kernel
theorem dX1_ofObject_115 : decode cX1_ofObject 115 = .ok (.ireturn, 1) := by decide +kernel
theorem dX1_ofObject_116 : decode cX1_ofObject 116 = .ok (.bipush (-2), 2) := by decide +kernel
theorem dX1_ofObject_118 : decode cX1_ofObject 118 = .ok (.ireturn, 1) := by decide +kernel
set_option maxRecDepth 20000 in
theorem ggX1_weight_X1_isObject : GoodIn wsX1_weight wsX1_isObject := goodIn_r _ [6, 7, 11, 12, 13, 14, 15, 16, 17, 18, 19, 20] (by decide +kernel) (by decide +kernel)
set_option maxRecDepth 20000 in
theorem gX1_weight_X1_isObject : GoodIn wsX1_weight (wsV RX1 62 RX1 yX1_isObject wsX1_isObject) := goodIn_app (goodIn_of _ (by decide +kernel)) ggX1_weight_X1_isObject
set_option maxRecDepth 20000 in
theorem ggX1_weight_X1_at : GoodIn wsX1_weight wsX1_at := goodIn_r _ [10] (by decide +kernel) (by decide +kernel)
set_option maxRecDepth 20000 in
theorem gX1_weight_X1_at : GoodIn wsX1_weight (va_wsS RX1 82 yX1_at wsX1_at) := goodIn_app (goodIn_of _ (by decide +kernel)) ggX1_weight_X1_at
theorem dX1_weight_0 : decode cX1_weight 0 = .ok (.aload_n 0, 1) := by decide +kernel
theorem dX1_weight_1 : decode cX1_weight 1 = .ok (.iload_n 1, 1) := by decide +kernel
theorem dX1_weight_2 : decode cX1_weight 2 = .ok (.invokevirtual 62, 3) := by decide +kernel
theorem dX1_weight_5 : decode cX1_weight 5 = .ok (.ifCond .eq 11, 3) := by decide +kernel
theorem dX1_weight_8 : decode cX1_weight 8 = .ok (.aload_n 0, 1) := by decide +kernel
theorem dX1_weight_9 : decode cX1_weight 9 = .ok (.iload_n 2, 1) := by decide +kernel
theorem dX1_weight_10 : decode cX1_weight 10 = .ok (.invokevirtual 62, 3) := by decide +kernel
theorem dX1_weight_13 : decode cX1_weight 13 = .ok (.ifCond .ne 5, 3) := by decide +kernel
theorem dX1_weight_16 : decode cX1_weight 16 = .ok (.iconst (-1), 1) := by decide +kernel
theorem dX1_weight_17 : decode cX1_weight 17 = .ok (.ireturn, 1) := by decide +kernel
theorem dX1_weight_18 : decode cX1_weight 18 = .ok (.aload_n 0, 1) := by decide +kernel
theorem dX1_weight_19 : decode cX1_weight 19 = .ok (.getfield 19, 3) := by decide +kernel
theorem dX1_weight_22 : decode cX1_weight 22 = .ok (.iload_n 1, 1) := by decide +kernel
theorem dX1_weight_23 : decode cX1_weight 23 = .ok (.iload_n 2, 1) := by decide +kernel
theorem dX1_weight_24 : decode cX1_weight 24 = .ok (.invokestatic 82, 3) := by decide +kernel
theorem dX1_weight_27 : decode cX1_weight 27 = .ok (.iaload, 1) := by decide +kernel
theorem dX1_weight_28 : decode cX1_weight 28 = .ok (.ireturn, 1) := by decide +kernel
set_option maxRecDepth 20000 in
theorem ggX1_give_X1_isObject : GoodIn wsX1_give wsX1_isObject := goodIn_r _ [7, 8, 60, 61, 62, 63, 64, 65, 66, 67, 68, 69] (by decide +kernel) (by decide +kernel)
set_option maxRecDepth 20000 in
theorem gX1_give_X1_isObject : GoodIn wsX1_give (wsV RX1 62 RX1 yX1_isObject wsX1_isObject) := goodIn_app (goodIn_of _ (by decide +kernel)) ggX1_give_X1_isObject
set_option maxRecDepth 20000 in
theorem ggX1_give_X1_mayGive : GoodIn wsX1_give wsX1_mayGive := goodIn_r _ [12, 13, 14, 15, 6, 16, 17, 18, 19, 20, 21, 22, 23, 24, 25, 26, 27, 28, 29, 30, 31, 60, 61, 62, 63, 64, 65, 66, 67, 68, 69] (by decide +kernel) (by decide +kernel)
set_option maxRecDepth 20000 in
theorem gX1_give_X1_mayGive : GoodIn wsX1_give (wsV RX1 99 RX1 yX1_mayGive wsX1_mayGive) := goodIn_app (goodIn_of _ (by decide +kernel)) ggX1_give_X1_mayGive
set_option maxRecDepth 20000 in
theorem ggX1_give_X1_onOneHost : GoodIn wsX1_give wsX1_onOneHost := goodIn_r _ [35, 36, 60, 61, 62, 63, 64, 65, 66, 67, 68, 69] (by decide +kernel) (by decide +kernel)
set_option maxRecDepth 20000 in
theorem gX1_give_X1_onOneHost : GoodIn wsX1_give (wsV RX1 72 RX1 yX1_onOneHost wsX1_onOneHost) := goodIn_app (goodIn_of _ (by decide +kernel)) ggX1_give_X1_onOneHost
set_option maxRecDepth 20000 in
theorem ggX1_give_X1_split : GoodIn wsX1_give wsX1_split := goodIn_r _ [40, 28, 2, 41, 29, 30, 6, 31, 60, 61, 62, 63, 64, 65, 66, 67, 68, 69] (by decide +kernel) (by decide +kernel)
set_option maxRecDepth 20000 in
theorem gX1_give_X1_split : GoodIn wsX1_give (wsV RX1 103 RX1 yX1_split wsX1_split) := goodIn_app (goodIn_of _ (by decide +kernel)) ggX1_give_X1_split
set_option maxRecDepth 20000 in
theorem ggX1_give_X1_addLink : GoodIn wsX1_give wsX1_addLink := goodIn_r _ [45, 28, 46, 24, 25, 26, 6, 27, 29, 30, 31, 60, 61, 62, 63, 64, 65, 66, 67, 68, 69] (by decide +kernel) (by decide +kernel)
set_option maxRecDepth 20000 in
theorem gX1_give_X1_addLink : GoodIn wsX1_give (wsV RX1 78 RX1 yX1_addLink wsX1_addLink) := goodIn_app (goodIn_of _ (by decide +kernel)) ggX1_give_X1_addLink
set_option maxRecDepth 20000 in
theorem ggX1_give_X0_sendGrant : GoodIn wsX1_give wsX0_sendGrant := goodIn_r _ [51, 52, 53, 54, 50, 55, 56, 57, 58, 59, 70, 71, 72, 73] (by decide +kernel) (by decide +kernel)
set_option maxRecDepth 20000 in
theorem gX1_give_X0_sendGrant : GoodIn wsX1_give (wsV RX1 106 RX0 yX0_sendGrant wsX0_sendGrant) := goodIn_app (goodIn_of _ (by decide +kernel)) ggX1_give_X0_sendGrant
theorem dX1_give_0 : decode cX1_give 0 = .ok (.aload_n 0, 1) := by decide +kernel
theorem dX1_give_1 : decode cX1_give 1 = .ok (.iload_n 1, 1) := by decide +kernel
theorem dX1_give_2 : decode cX1_give 2 = .ok (.invokevirtual 62, 3) := by decide +kernel
theorem dX1_give_5 : decode cX1_give 5 = .ok (.ifCond .eq 19, 3) := by decide +kernel
theorem dX1_give_8 : decode cX1_give 8 = .ok (.aload_n 0, 1) := by decide +kernel
theorem dX1_give_9 : decode cX1_give 9 = .ok (.iload_n 2, 1) := by decide +kernel
theorem dX1_give_10 : decode cX1_give 10 = .ok (.invokevirtual 62, 3) := by decide +kernel
theorem dX1_give_13 : decode cX1_give 13 = .ok (.ifCond .eq 11, 3) := by decide +kernel
theorem dX1_give_16 : decode cX1_give 16 = .ok (.aload_n 0, 1) := by decide +kernel
theorem dX1_give_17 : decode cX1_give 17 = .ok (.iload_n 3, 1) := by decide +kernel
theorem dX1_give_18 : decode cX1_give 18 = .ok (.invokevirtual 62, 3) := by decide +kernel
theorem dX1_give_21 : decode cX1_give 21 = .ok (.ifCond .ne 5, 3) := by decide +kernel
theorem dX1_give_24 : decode cX1_give 24 = .ok (.iconst (-1), 1) := by decide +kernel
theorem dX1_give_25 : decode cX1_give 25 = .ok (.ireturn, 1) := by decide +kernel
theorem dX1_give_26 : decode cX1_give 26 = .ok (.aload_n 0, 1) := by decide +kernel
theorem dX1_give_27 : decode cX1_give 27 = .ok (.iload_n 1, 1) := by decide +kernel
theorem dX1_give_28 : decode cX1_give 28 = .ok (.iload_n 2, 1) := by decide +kernel
theorem dX1_give_29 : decode cX1_give 29 = .ok (.iload_n 3, 1) := by decide +kernel
theorem dX1_give_30 : decode cX1_give 30 = .ok (.invokevirtual 99, 3) := by decide +kernel
theorem dX1_give_33 : decode cX1_give 33 = .ok (.ifCond .ne 6, 3) := by decide +kernel
theorem dX1_give_36 : decode cX1_give 36 = .ok (.bipush (-3), 2) := by decide +kernel
theorem dX1_give_38 : decode cX1_give 38 = .ok (.ireturn, 1) := by decide +kernel
theorem dX1_give_39 : decode cX1_give 39 = .ok (.aload_n 0, 1) := by decide +kernel
theorem dX1_give_40 : decode cX1_give 40 = .ok (.iload_n 1, 1) := by decide +kernel
theorem dX1_give_41 : decode cX1_give 41 = .ok (.iload_n 2, 1) := by decide +kernel
theorem dX1_give_42 : decode cX1_give 42 = .ok (.invokevirtual 72, 3) := by decide +kernel
theorem dX1_give_45 : decode cX1_give 45 = .ok (.ifCond .eq 30, 3) := by decide +kernel
theorem dX1_give_48 : decode cX1_give 48 = .ok (.aload_n 0, 1) := by decide +kernel
theorem dX1_give_49 : decode cX1_give 49 = .ok (.iload_n 2, 1) := by decide +kernel
theorem dX1_give_50 : decode cX1_give 50 = .ok (.iload_n 3, 1) := by decide +kernel
theorem dX1_give_51 : decode cX1_give 51 = .ok (.aload_n 0, 1) := by decide +kernel
theorem dX1_give_52 : decode cX1_give 52 = .ok (.iload_n 1, 1) := by decide +kernel
theorem dX1_give_53 : decode cX1_give 53 = .ok (.iload_n 3, 1) := by decide +kernel
theorem dX1_give_54 : decode cX1_give 54 = .ok (.invokevirtual 72, 3) := by decide +kernel
theorem dX1_give_57 : decode cX1_give 57 = .ok (.ifCond .eq 7, 3) := by decide +kernel
theorem dX1_give_60 : decode cX1_give 60 = .ok (.iconst 0, 1) := by decide +kernel
theorem dX1_give_61 : decode cX1_give 61 = .ok (.goto 9, 3) := by decide +kernel
theorem dX1_give_64 : decode cX1_give 64 = .ok (.aload_n 0, 1) := by decide +kernel
theorem dX1_give_65 : decode cX1_give 65 = .ok (.iload_n 1, 1) := by decide +kernel
theorem dX1_give_66 : decode cX1_give 66 = .ok (.iload_n 3, 1) := by decide +kernel
theorem dX1_give_67 : decode cX1_give 67 = .ok (.invokevirtual 103, 3) := by decide +kernel
theorem dX1_give_70 : decode cX1_give 70 = .ok (.invokevirtual 78, 3) := by decide +kernel
theorem dX1_give_73 : decode cX1_give 73 = .ok (.iconst 0, 1) := by decide +kernel
theorem dX1_give_74 : decode cX1_give 74 = .ok (.ireturn, 1) := by decide +kernel
theorem dX1_give_75 : decode cX1_give 75 = .ok (.aload_n 0, 1) := by decide +kernel
theorem dX1_give_76 : decode cX1_give 76 = .ok (.getfield 31, 3) := by decide +kernel
theorem dX1_give_79 : decode cX1_give 79 = .ok (.getfield 86, 3) := by decide +kernel
theorem dX1_give_82 : decode cX1_give 82 = .ok (.bipush 60, 2) := by decide +kernel
theorem dX1_give_84 : decode cX1_give 84 = .ok (.if_icmp .lt 6, 3) := by decide +kernel
theorem dX1_give_87 : decode cX1_give 87 = .ok (.bipush (-4), 2) := by decide +kernel
theorem dX1_give_89 : decode cX1_give 89 = .ok (.ireturn, 1) := by decide +kernel
theorem dX1_give_90 : decode cX1_give 90 = .ok (.aload_n 0, 1) := by decide +kernel
theorem dX1_give_91 : decode cX1_give 91 = .ok (.iload_n 1, 1) := by decide +kernel
theorem dX1_give_92 : decode cX1_give 92 = .ok (.iload_n 3, 1) := by decide +kernel
theorem dX1_give_93 : decode cX1_give 93 = .ok (.invokevirtual 72, 3) := by decide +kernel
theorem dX1_give_96 : decode cX1_give 96 = .ok (.ifCond .eq 28, 3) := by decide +kernel
theorem dX1_give_99 : decode cX1_give 99 = .ok (.aload_n 0, 1) := by decide +kernel
theorem dX1_give_100 : decode cX1_give 100 = .ok (.getfield 13, 3) := by decide +kernel
theorem dX1_give_103 : decode cX1_give 103 = .ok (.iload_n 3, 1) := by decide +kernel
theorem dX1_give_104 : decode cX1_give 104 = .ok (.dup2, 1) := by decide +kernel
theorem dX1_give_105 : decode cX1_give 105 = .ok (.iaload, 1) := by decide +kernel
theorem dX1_give_106 : decode cX1_give 106 = .ok (.bipush 64, 2) := by decide +kernel
theorem dX1_give_108 : decode cX1_give 108 = .ok (.iadd, 1) := by decide +kernel
theorem dX1_give_109 : decode cX1_give 109 = .ok (.iastore, 1) := by decide +kernel
theorem dX1_give_110 : decode cX1_give 110 = .ok (.aload_n 0, 1) := by decide +kernel
theorem dX1_give_111 : decode cX1_give 111 = .ok (.getfield 31, 3) := by decide +kernel
theorem dX1_give_114 : decode cX1_give 114 = .ok (.iload_n 3, 1) := by decide +kernel
theorem dX1_give_115 : decode cX1_give 115 = .ok (.iload_n 2, 1) := by decide +kernel
theorem dX1_give_116 : decode cX1_give 116 = .ok (.bipush 64, 2) := by decide +kernel
theorem dX1_give_118 : decode cX1_give 118 = .ok (.invokevirtual 106, 3) := by decide +kernel
theorem dX1_give_121 : decode cX1_give 121 = .ok (.goto 18, 3) := by decide +kernel
theorem dX1_give_124 : decode cX1_give 124 = .ok (.aload_n 0, 1) := by decide +kernel
theorem dX1_give_125 : decode cX1_give 125 = .ok (.getfield 31, 3) := by decide +kernel
theorem dX1_give_128 : decode cX1_give 128 = .ok (.iload_n 3, 1) := by decide +kernel
theorem dX1_give_129 : decode cX1_give 129 = .ok (.iload_n 2, 1) := by decide +kernel
theorem dX1_give_130 : decode cX1_give 130 = .ok (.aload_n 0, 1) := by decide +kernel
theorem dX1_give_131 : decode cX1_give 131 = .ok (.iload_n 1, 1) := by decide +kernel
theorem dX1_give_132 : decode cX1_give 132 = .ok (.iload_n 3, 1) := by decide +kernel
theorem dX1_give_133 : decode cX1_give 133 = .ok (.invokevirtual 103, 3) := by decide +kernel
theorem dX1_give_136 : decode cX1_give 136 = .ok (.invokevirtual 106, 3) := by decide +kernel
theorem dX1_give_139 : decode cX1_give 139 = .ok (.iconst 1, 1) := by decide +kernel
theorem dX1_give_140 : decode cX1_give 140 = .ok (.ireturn, 1) := by decide +kernel
set_option maxRecDepth 20000 in
theorem ggX1_deliver_X0_has : GoodIn wsX1_deliver wsX0_has := goodIn_r _ [6, 7, 85, 86, 87, 88] (by decide +kernel) (by decide +kernel)
set_option maxRecDepth 20000 in
theorem gX1_deliver_X0_has : GoodIn wsX1_deliver (wsV RX1 109 RX0 yX0_has wsX0_has) := goodIn_app (goodIn_of _ (by decide +kernel)) ggX1_deliver_X0_has
set_option maxRecDepth 20000 in
theorem ggX1_deliver_X1_arrive : GoodIn wsX1_deliver wsX1_arrive := goodIn_r _ [12, 1, 13, 14, 15, 16, 5, 17, 18, 19, 20, 21, 22, 7, 23, 24, 25, 26, 27, 28, 29, 30, 31, 11, 32, 33, 34, 35, 36, 37, 38, 39, 40, 41, 42, 43, 44, 45, 46, 47, 48, 49, 50, 51, 52, 53, 54, 55, 56, 57, 58, 59, 60, 61, 62, 63, 64, 65, 66, 67, 68, 69, 70, 71, 72, 73, 74, 75, 76, 77, 78, 79, 80, 81, 82, 83, 84, 85, 86, 87, 88] (by decide +kernel) (by decide +kernel)
set_option maxRecDepth 20000 in
theorem gX1_deliver_X1_arrive : GoodIn wsX1_deliver (wsV RX1 112 RX1 yX1_arrive wsX1_arrive) := goodIn_app (goodIn_of _ (by decide +kernel)) ggX1_deliver_X1_arrive
theorem dX1_deliver_0 : decode cX1_deliver 0 = .ok (.aload_n 0, 1) := by decide +kernel
theorem dX1_deliver_1 : decode cX1_deliver 1 = .ok (.getfield 31, 3) := by decide +kernel
theorem dX1_deliver_4 : decode cX1_deliver 4 = .ok (.iload_n 1, 1) := by decide +kernel
theorem dX1_deliver_5 : decode cX1_deliver 5 = .ok (.invokevirtual 109, 3) := by decide +kernel
theorem dX1_deliver_8 : decode cX1_deliver 8 = .ok (.ifCond .ne 5, 3) := by decide +kernel
theorem dX1_deliver_11 : decode cX1_deliver 11 = .ok (.iconst (-1), 1) := by decide +kernel
theorem dX1_deliver_12 : decode cX1_deliver 12 = .ok (.ireturn, 1) := by decide +kernel
theorem dX1_deliver_13 : decode cX1_deliver 13 = .ok (.aload_n 0, 1) := by decide +kernel
theorem dX1_deliver_14 : decode cX1_deliver 14 = .ok (.iload_n 1, 1) := by decide +kernel
theorem dX1_deliver_15 : decode cX1_deliver 15 = .ok (.invokevirtual 112, 3) := by decide +kernel
theorem dX1_deliver_18 : decode cX1_deliver 18 = .ok (.ireturn, 1) := by decide +kernel
set_option maxRecDepth 20000 in
theorem ggX1_letter_X0_has : GoodIn wsX1_letter wsX0_has := goodIn_r _ [6, 7, 29, 30, 31, 32] (by decide +kernel) (by decide +kernel)
set_option maxRecDepth 20000 in
theorem gX1_letter_X0_has : GoodIn wsX1_letter (wsV RX1 109 RX0 yX0_has wsX0_has) := goodIn_app (goodIn_of _ (by decide +kernel)) ggX1_letter_X0_has
set_option maxRecDepth 20000 in
theorem ggX1_letter_X0_kind : GoodIn wsX1_letter wsX0_kind := goodIn_r _ [11, 12, 29, 30, 31, 32] (by decide +kernel) (by decide +kernel)
set_option maxRecDepth 20000 in
theorem gX1_letter_X0_kind : GoodIn wsX1_letter (wsV RX1 115 RX0 yX0_kind wsX0_kind) := goodIn_app (goodIn_of _ (by decide +kernel)) ggX1_letter_X0_kind
set_option maxRecDepth 20000 in
theorem ggX1_letter_X1_goesTo : GoodIn wsX1_letter wsX1_goesTo := goodIn_r _ [17, 1, 18, 19, 20, 21, 22, 23, 24, 25, 26, 27, 28, 29, 30, 31, 32] (by decide +kernel) (by decide +kernel)
set_option maxRecDepth 20000 in
theorem gX1_letter_X1_goesTo : GoodIn wsX1_letter (wsV RX1 118 RX1 yX1_goesTo wsX1_goesTo) := goodIn_app (goodIn_of _ (by decide +kernel)) ggX1_letter_X1_goesTo
theorem dX1_letter_0 : decode cX1_letter 0 = .ok (.aload_n 0, 1) := by decide +kernel
theorem dX1_letter_1 : decode cX1_letter 1 = .ok (.getfield 31, 3) := by decide +kernel
theorem dX1_letter_4 : decode cX1_letter 4 = .ok (.iload_n 1, 1) := by decide +kernel
theorem dX1_letter_5 : decode cX1_letter 5 = .ok (.invokevirtual 109, 3) := by decide +kernel
theorem dX1_letter_8 : decode cX1_letter 8 = .ok (.ifCond .ne 5, 3) := by decide +kernel
theorem dX1_letter_11 : decode cX1_letter 11 = .ok (.iconst (-1), 1) := by decide +kernel
theorem dX1_letter_12 : decode cX1_letter 12 = .ok (.ireturn, 1) := by decide +kernel
theorem dX1_letter_13 : decode cX1_letter 13 = .ok (.iload_n 2, 1) := by decide +kernel
theorem dX1_letter_14 : decode cX1_letter 14 = .ok (.tableswitch 79 0 4 #[34, 43, 49, 59, 69], 34) := by decide +kernel
theorem dX1_letter_48 : decode cX1_letter 48 = .ok (.aload_n 0, 1) := by decide +kernel
theorem dX1_letter_49 : decode cX1_letter 49 = .ok (.getfield 31, 3) := by decide +kernel
theorem dX1_letter_52 : decode cX1_letter 52 = .ok (.iload_n 1, 1) := by decide +kernel
theorem dX1_letter_53 : decode cX1_letter 53 = .ok (.invokevirtual 115, 3) := by decide +kernel
theorem dX1_letter_56 : decode cX1_letter 56 = .ok (.ireturn, 1) := by decide +kernel
theorem dX1_letter_57 : decode cX1_letter 57 = .ok (.aload_n 0, 1) := by decide +kernel
theorem dX1_letter_58 : decode cX1_letter 58 = .ok (.iload_n 1, 1) := by decide +kernel
theorem dX1_letter_59 : decode cX1_letter 59 = .ok (.invokevirtual 118, 3) := by decide +kernel
theorem dX1_letter_62 : decode cX1_letter 62 = .ok (.ireturn, 1) := by decide +kernel
theorem dX1_letter_63 : decode cX1_letter 63 = .ok (.aload_n 0, 1) := by decide +kernel
theorem dX1_letter_64 : decode cX1_letter 64 = .ok (.getfield 31, 3) := by decide +kernel
theorem dX1_letter_67 : decode cX1_letter 67 = .ok (.getfield 121, 3) := by decide +kernel
theorem dX1_letter_70 : decode cX1_letter 70 = .ok (.iload_n 1, 1) := by decide +kernel
theorem dX1_letter_71 : decode cX1_letter 71 = .ok (.iaload, 1) := by decide +kernel
theorem dX1_letter_72 : decode cX1_letter 72 = .ok (.ireturn, 1) := by decide +kernel
theorem dX1_letter_73 : decode cX1_letter 73 = .ok (.aload_n 0, 1) := by decide +kernel
theorem dX1_letter_74 : decode cX1_letter 74 = .ok (.getfield 31, 3) := by decide +kernel
theorem dX1_letter_77 : decode cX1_letter 77 = .ok (.getfield 124, 3) := by decide +kernel
theorem dX1_letter_80 : decode cX1_letter 80 = .ok (.iload_n 1, 1) := by decide +kernel
theorem dX1_letter_81 : decode cX1_letter 81 = .ok (.iaload, 1) := by decide +kernel
theorem dX1_letter_82 : decode cX1_letter 82 = .ok (.ireturn, 1) := by decide +kernel
theorem dX1_letter_83 : decode cX1_letter 83 = .ok (.aload_n 0, 1) := by decide +kernel
theorem dX1_letter_84 : decode cX1_letter 84 = .ok (.getfield 31, 3) := by decide +kernel
theorem dX1_letter_87 : decode cX1_letter 87 = .ok (.getfield 127, 3) := by decide +kernel
theorem dX1_letter_90 : decode cX1_letter 90 = .ok (.iload_n 1, 1) := by decide +kernel
theorem dX1_letter_91 : decode cX1_letter 91 = .ok (.iaload, 1) := by decide +kernel
theorem dX1_letter_92 : decode cX1_letter 92 = .ok (.ireturn, 1) := by decide +kernel
theorem dX1_letter_93 : decode cX1_letter 93 = .ok (.bipush (-2), 2) := by decide +kernel
theorem dX1_letter_95 : decode cX1_letter 95 = .ok (.ireturn, 1) := by decide +kernel
set_option maxRecDepth 20000 in
theorem ggX1_collect_X1_isHost : GoodIn wsX1_collect wsX1_isHost := goodIn_r _ [4] (by decide +kernel) (by decide +kernel)
set_option maxRecDepth 20000 in
theorem gX1_collect_X1_isHost : GoodIn wsX1_collect (va_wsS RX1 51 yX1_isHost wsX1_isHost) := goodIn_app (goodIn_of _ (by decide +kernel)) ggX1_collect_X1_isHost
set_option maxRecDepth 20000 in
theorem ggX1_collect_X1_isDead : GoodIn wsX1_collect wsX1_isDead := goodIn_r _ [8, 9, 10, 11, 3, 12, 13, 14, 15, 87, 88, 89, 90, 91, 92, 93, 94, 95, 96] (by decide +kernel) (by decide +kernel)
set_option maxRecDepth 20000 in
theorem gX1_collect_X1_isDead : GoodIn wsX1_collect (wsV RX1 55 RX1 yX1_isDead wsX1_isDead) := goodIn_app (goodIn_of _ (by decide +kernel)) ggX1_collect_X1_isDead
set_option maxRecDepth 20000 in
theorem ggX1_collect_X1_collectOn : GoodIn wsX1_collect wsX1_collectOn := goodIn_r _ [19, 20, 21, 22, 23, 3, 24, 25, 26, 27, 28, 29, 30, 31, 32, 33, 34, 35, 10, 11, 12, 13, 14, 15, 36, 37, 38, 39, 40, 41, 42, 43, 44, 45, 46, 47, 48, 49, 50, 51, 52, 53, 54, 55, 56, 57, 58, 59, 60, 61, 62, 63, 64, 65, 66, 67, 68, 69, 70, 71, 72, 73, 74, 75, 76, 77, 78, 79, 80, 81, 82, 83, 84, 85, 86, 87, 88, 89, 90, 91, 92, 93, 94, 95, 96, 97, 98, 99, 100] (by decide +kernel) (by decide +kernel)
set_option maxRecDepth 20000 in
theorem gX1_collect_X1_collectOn : GoodIn wsX1_collect (wsV RX1 130 RX1 yX1_collectOn wsX1_collectOn) := goodIn_app (goodIn_of _ (by decide +kernel)) ggX1_collect_X1_collectOn
theorem dX1_collect_0 : decode cX1_collect 0 = .ok (.iload_n 1, 1) := by decide +kernel
theorem dX1_collect_1 : decode cX1_collect 1 = .ok (.invokestatic 51, 3) := by decide +kernel
theorem dX1_collect_4 : decode cX1_collect 4 = .ok (.ifCond .ne 5, 3) := by decide +kernel
theorem dX1_collect_7 : decode cX1_collect 7 = .ok (.iconst (-1), 1) := by decide +kernel
theorem dX1_collect_8 : decode cX1_collect 8 = .ok (.ireturn, 1) := by decide +kernel
theorem dX1_collect_9 : decode cX1_collect 9 = .ok (.aload_n 0, 1) := by decide +kernel
theorem dX1_collect_10 : decode cX1_collect 10 = .ok (.iload_n 1, 1) := by decide +kernel
theorem dX1_collect_11 : decode cX1_collect 11 = .ok (.invokevirtual 55, 3) := by decide +kernel
theorem dX1_collect_14 : decode cX1_collect 14 = .ok (.ifCond .eq 6, 3) := by decide +kernel
theorem dX1_collect_17 : decode cX1_collect 17 = .ok (.bipush (-3), 2) := by decide +kernel
theorem dX1_collect_19 : decode cX1_collect 19 = .ok (.ireturn, 1) := by decide +kernel
theorem dX1_collect_20 : decode cX1_collect 20 = .ok (.aload_n 0, 1) := by decide +kernel
theorem dX1_collect_21 : decode cX1_collect 21 = .ok (.iload_n 1, 1) := by decide +kernel
theorem dX1_collect_22 : decode cX1_collect 22 = .ok (.invokevirtual 130, 3) := by decide +kernel
theorem dX1_collect_25 : decode cX1_collect 25 = .ok (.ireturn, 1) := by decide +kernel
set_option maxRecDepth 20000 in
theorem ggX1_stays_X1_isHost : GoodIn wsX1_stays wsX1_isHost := goodIn_r _ [4] (by decide +kernel) (by decide +kernel)
set_option maxRecDepth 20000 in
theorem gX1_stays_X1_isHost : GoodIn wsX1_stays (va_wsS RX1 51 yX1_isHost wsX1_isHost) := goodIn_app (goodIn_of _ (by decide +kernel)) ggX1_stays_X1_isHost
set_option maxRecDepth 20000 in
theorem ggX1_stays_X1_staying : GoodIn wsX1_stays wsX1_staying := goodIn_r _ [8, 9, 10, 11, 12, 13, 14, 3, 15, 16, 17, 18, 19, 20, 21, 22, 23, 24, 25, 26, 27, 28, 29, 30, 31, 32, 33, 34, 35, 36, 37, 38, 39, 40, 41, 42] (by decide +kernel) (by decide +kernel)
set_option maxRecDepth 20000 in
theorem gX1_stays_X1_staying : GoodIn wsX1_stays (wsV RX1 133 RX1 yX1_staying wsX1_staying) := goodIn_app (goodIn_of _ (by decide +kernel)) ggX1_stays_X1_staying
theorem dX1_stays_0 : decode cX1_stays 0 = .ok (.iload_n 1, 1) := by decide +kernel
theorem dX1_stays_1 : decode cX1_stays 1 = .ok (.invokestatic 51, 3) := by decide +kernel
theorem dX1_stays_4 : decode cX1_stays 4 = .ok (.ifCond .ne 5, 3) := by decide +kernel
theorem dX1_stays_7 : decode cX1_stays 7 = .ok (.iconst (-1), 1) := by decide +kernel
theorem dX1_stays_8 : decode cX1_stays 8 = .ok (.ireturn, 1) := by decide +kernel
theorem dX1_stays_9 : decode cX1_stays 9 = .ok (.aload_n 0, 1) := by decide +kernel
theorem dX1_stays_10 : decode cX1_stays 10 = .ok (.iload_n 1, 1) := by decide +kernel
theorem dX1_stays_11 : decode cX1_stays 11 = .ok (.invokevirtual 133, 3) := by decide +kernel
theorem dX1_stays_14 : decode cX1_stays 14 = .ok (.ireturn, 1) := by decide +kernel
set_option maxRecDepth 20000 in
theorem ggX1_old_X1_isHost : GoodIn wsX1_old wsX1_isHost := goodIn_r _ [6] (by decide +kernel) (by decide +kernel)
set_option maxRecDepth 20000 in
theorem gX1_old_X1_isHost : GoodIn wsX1_old (va_wsS RX1 51 yX1_isHost wsX1_isHost) := goodIn_app (goodIn_of _ (by decide +kernel)) ggX1_old_X1_isHost
set_option maxRecDepth 20000 in
theorem ggX1_old_X1_livesOn : GoodIn wsX1_old wsX1_livesOn := goodIn_r _ [10, 11, 12, 13, 14, 5, 15, 16, 17, 18, 19, 20, 21, 22, 23, 24, 25, 26, 27, 28, 29, 30, 31, 32] (by decide +kernel) (by decide +kernel)
set_option maxRecDepth 20000 in
theorem gX1_old_X1_livesOn : GoodIn wsX1_old (wsV RX1 136 RX1 yX1_livesOn wsX1_livesOn) := goodIn_app (goodIn_of _ (by decide +kernel)) ggX1_old_X1_livesOn
set_option maxRecDepth 20000 in
theorem ggX1_old_X1_bit : GoodIn wsX1_old wsX1_bit := goodIn_r _ [22] (by decide +kernel) (by decide +kernel)
set_option maxRecDepth 20000 in
theorem gX1_old_X1_bit : GoodIn wsX1_old (va_wsS RX1 58 yX1_bit wsX1_bit) := goodIn_app (goodIn_of _ (by decide +kernel)) ggX1_old_X1_bit
theorem dX1_old_0 : decode cX1_old 0 = .ok (.iload_n 1, 1) := by decide +kernel
theorem dX1_old_1 : decode cX1_old 1 = .ok (.invokestatic 51, 3) := by decide +kernel
theorem dX1_old_4 : decode cX1_old 4 = .ok (.ifCond .ne 5, 3) := by decide +kernel
theorem dX1_old_7 : decode cX1_old 7 = .ok (.iconst (-1), 1) := by decide +kernel
theorem dX1_old_8 : decode cX1_old 8 = .ok (.ireturn, 1) := by decide +kernel
theorem dX1_old_9 : decode cX1_old 9 = .ok (.iload_n 2, 1) := by decide +kernel
theorem dX1_old_10 : decode cX1_old 10 = .ok (.ifCond .lt 9, 3) := by decide +kernel
theorem dX1_old_13 : decode cX1_old 13 = .ok (.iload_n 2, 1) := by decide +kernel
theorem dX1_old_14 : decode cX1_old 14 = .ok (.bipush 9, 2) := by decide +kernel
theorem dX1_old_16 : decode cX1_old 16 = .ok (.if_icmp .le 6, 3) := by decide +kernel
theorem dX1_old_19 : decode cX1_old 19 = .ok (.bipush (-2), 2) := by decide +kernel
theorem dX1_old_21 : decode cX1_old 21 = .ok (.ireturn, 1) := by decide +kernel
theorem dX1_old_22 : decode cX1_old 22 = .ok (.iconst 0, 1) := by decide +kernel
theorem dX1_old_23 : decode cX1_old 23 = .ok (.istore_n 3, 1) := by decide +kernel
theorem dX1_old_24 : decode cX1_old 24 = .ok (.iconst 0, 1) := by decide +kernel
theorem dX1_old_25 : decode cX1_old 25 = .ok (.istore 4, 2) := by decide +kernel
theorem dX1_old_27 : decode cX1_old 27 = .ok (.iload 4, 2) := by decide +kernel
theorem dX1_old_29 : decode cX1_old 29 = .ok (.aload_n 0, 1) := by decide +kernel
theorem dX1_old_30 : decode cX1_old 30 = .ok (.getfield 35, 3) := by decide +kernel
theorem dX1_old_33 : decode cX1_old 33 = .ok (.if_icmp .ge 38, 3) := by decide +kernel
theorem dX1_old_36 : decode cX1_old 36 = .ok (.aload_n 0, 1) := by decide +kernel
theorem dX1_old_37 : decode cX1_old 37 = .ok (.iload 4, 2) := by decide +kernel
theorem dX1_old_39 : decode cX1_old 39 = .ok (.iload_n 1, 1) := by decide +kernel
theorem dX1_old_40 : decode cX1_old 40 = .ok (.invokevirtual 136, 3) := by decide +kernel
theorem dX1_old_43 : decode cX1_old 43 = .ok (.ifCond .eq 22, 3) := by decide +kernel
theorem dX1_old_46 : decode cX1_old 46 = .ok (.aload_n 0, 1) := by decide +kernel
theorem dX1_old_47 : decode cX1_old 47 = .ok (.getfield 16, 3) := by decide +kernel
theorem dX1_old_50 : decode cX1_old 50 = .ok (.iload 4, 2) := by decide +kernel
theorem dX1_old_52 : decode cX1_old 52 = .ok (.iaload, 1) := by decide +kernel
theorem dX1_old_53 : decode cX1_old 53 = .ok (.iload_n 2, 1) := by decide +kernel
theorem dX1_old_54 : decode cX1_old 54 = .ok (.if_icmp .lt 11, 3) := by decide +kernel
theorem dX1_old_57 : decode cX1_old 57 = .ok (.iload_n 3, 1) := by decide +kernel
theorem dX1_old_58 : decode cX1_old 58 = .ok (.iload 4, 2) := by decide +kernel
theorem dX1_old_60 : decode cX1_old 60 = .ok (.invokestatic 58, 3) := by decide +kernel
theorem dX1_old_63 : decode cX1_old 63 = .ok (.ior, 1) := by decide +kernel
theorem dX1_old_64 : decode cX1_old 64 = .ok (.istore_n 3, 1) := by decide +kernel
theorem dX1_old_65 : decode cX1_old 65 = .ok (.iinc 4 1, 3) := by decide +kernel
theorem dX1_old_68 : decode cX1_old 68 = .ok (.goto (-41), 3) := by decide +kernel
theorem dX1_old_71 : decode cX1_old 71 = .ok (.iload_n 3, 1) := by decide +kernel
theorem dX1_old_72 : decode cX1_old 72 = .ok (.ireturn, 1) := by decide +kernel
set_option maxRecDepth 20000 in
theorem ggX1_trace_X1_isObject : GoodIn wsX1_trace wsX1_isObject := goodIn_r _ [5, 6, 72, 73, 74, 75, 76, 77, 78, 79, 80, 81] (by decide +kernel) (by decide +kernel)
set_option maxRecDepth 20000 in
theorem gX1_trace_X1_isObject : GoodIn wsX1_trace (wsV RX1 62 RX1 yX1_isObject wsX1_isObject) := goodIn_app (goodIn_of _ (by decide +kernel)) ggX1_trace_X1_isObject
set_option maxRecDepth 20000 in
theorem ggX1_trace_X1_isLive : GoodIn wsX1_trace wsX1_isLive := goodIn_r _ [10, 11, 12, 13, 4, 14, 15, 16, 17, 72, 73, 74, 75, 76, 77, 78, 79, 80, 81] (by decide +kernel) (by decide +kernel)
set_option maxRecDepth 20000 in
theorem gX1_trace_X1_isLive : GoodIn wsX1_trace (wsV RX1 65 RX1 yX1_isLive wsX1_isLive) := goodIn_app (goodIn_of _ (by decide +kernel)) ggX1_trace_X1_isLive
set_option maxRecDepth 20000 in
theorem ggX1_trace_X1_backOf : GoodIn wsX1_trace wsX1_backOf := goodIn_r _ [21, 6, 15, 16, 4, 17, 22, 23, 24, 25, 26, 27, 28, 29, 30, 31, 32, 33, 72, 73, 74, 75, 76, 77, 78, 79, 80, 81] (by decide +kernel) (by decide +kernel)
set_option maxRecDepth 20000 in
theorem gX1_trace_X1_backOf : GoodIn wsX1_trace (wsV RX1 139 RX1 yX1_backOf wsX1_backOf) := goodIn_app (goodIn_of _ (by decide +kernel)) ggX1_trace_X1_backOf
set_option maxRecDepth 20000 in
theorem ggX1_trace_X1_heldBy : GoodIn wsX1_trace wsX1_heldBy := goodIn_r _ [37, 38, 39, 40, 41, 42, 43, 44, 45, 12, 13, 4, 14, 15, 16, 17, 72, 73, 74, 75, 76, 77, 78, 79, 80, 81, 82, 83, 84, 85] (by decide +kernel) (by decide +kernel)
set_option maxRecDepth 20000 in
theorem gX1_trace_X1_heldBy : GoodIn wsX1_trace (wsV RX1 142 RX1 yX1_heldBy wsX1_heldBy) := goodIn_app (goodIn_of _ (by decide +kernel)) ggX1_trace_X1_heldBy
set_option maxRecDepth 20000 in
theorem ggX1_trace_X1_sendReturnsOf : GoodIn wsX1_trace wsX1_sendReturnsOf := goodIn_r _ [49, 6, 30, 39, 12, 13, 4, 14, 15, 16, 17, 31, 32, 33, 50, 51, 52, 43, 53, 54, 55, 56, 57, 58, 59, 45, 60, 72, 73, 74, 75, 76, 77, 78, 79, 80, 81, 82, 83, 84, 85] (by decide +kernel) (by decide +kernel)
set_option maxRecDepth 20000 in
theorem gX1_trace_X1_sendReturnsOf : GoodIn wsX1_trace (wsV RX1 145 RX1 yX1_sendReturnsOf wsX1_sendReturnsOf) := goodIn_app (goodIn_of _ (by decide +kernel)) ggX1_trace_X1_sendReturnsOf
set_option maxRecDepth 20000 in
theorem ggX1_trace_X1_becomeGone : GoodIn wsX1_trace wsX1_becomeGone := goodIn_r _ [64, 6, 30, 11, 12, 13, 4, 14, 15, 16, 17, 31, 32, 33, 65, 66, 67, 68, 69, 70, 71, 72, 73, 74, 75, 76, 77, 78, 79, 80, 81] (by decide +kernel) (by decide +kernel)
set_option maxRecDepth 20000 in
theorem gX1_trace_X1_becomeGone : GoodIn wsX1_trace (wsV RX1 149 RX1 yX1_becomeGone wsX1_becomeGone) := goodIn_app (goodIn_of _ (by decide +kernel)) ggX1_trace_X1_becomeGone
theorem dX1_trace_0 : decode cX1_trace 0 = .ok (.aload_n 0, 1) := by decide +kernel
theorem dX1_trace_1 : decode cX1_trace 1 = .ok (.iload_n 1, 1) := by decide +kernel
theorem dX1_trace_2 : decode cX1_trace 2 = .ok (.invokevirtual 62, 3) := by decide +kernel
theorem dX1_trace_5 : decode cX1_trace 5 = .ok (.ifCond .ne 5, 3) := by decide +kernel
theorem dX1_trace_8 : decode cX1_trace 8 = .ok (.iconst (-1), 1) := by decide +kernel
theorem dX1_trace_9 : decode cX1_trace 9 = .ok (.ireturn, 1) := by decide +kernel
theorem dX1_trace_10 : decode cX1_trace 10 = .ok (.aload_n 0, 1) := by decide +kernel
theorem dX1_trace_11 : decode cX1_trace 11 = .ok (.iload_n 1, 1) := by decide +kernel
theorem dX1_trace_12 : decode cX1_trace 12 = .ok (.invokevirtual 65, 3) := by decide +kernel
theorem dX1_trace_15 : decode cX1_trace 15 = .ok (.ifCond .ne 6, 3) := by decide +kernel
theorem dX1_trace_18 : decode cX1_trace 18 = .ok (.bipush (-3), 2) := by decide +kernel
theorem dX1_trace_20 : decode cX1_trace 20 = .ok (.ireturn, 1) := by decide +kernel
theorem dX1_trace_21 : decode cX1_trace 21 = .ok (.aload_n 0, 1) := by decide +kernel
theorem dX1_trace_22 : decode cX1_trace 22 = .ok (.iload_n 1, 1) := by decide +kernel
theorem dX1_trace_23 : decode cX1_trace 23 = .ok (.invokevirtual 139, 3) := by decide +kernel
theorem dX1_trace_26 : decode cX1_trace 26 = .ok (.istore_n 2, 1) := by decide +kernel
theorem dX1_trace_27 : decode cX1_trace 27 = .ok (.aload_n 0, 1) := by decide +kernel
theorem dX1_trace_28 : decode cX1_trace 28 = .ok (.iload_n 2, 1) := by decide +kernel
theorem dX1_trace_29 : decode cX1_trace 29 = .ok (.invokevirtual 142, 3) := by decide +kernel
theorem dX1_trace_32 : decode cX1_trace 32 = .ok (.ifCond .eq 5, 3) := by decide +kernel
theorem dX1_trace_35 : decode cX1_trace 35 = .ok (.iconst 0, 1) := by decide +kernel
theorem dX1_trace_36 : decode cX1_trace 36 = .ok (.ireturn, 1) := by decide +kernel
theorem dX1_trace_37 : decode cX1_trace 37 = .ok (.aload_n 0, 1) := by decide +kernel
theorem dX1_trace_38 : decode cX1_trace 38 = .ok (.iload_n 2, 1) := by decide +kernel
theorem dX1_trace_39 : decode cX1_trace 39 = .ok (.invokevirtual 145, 3) := by decide +kernel
theorem dX1_trace_42 : decode cX1_trace 42 = .ok (.aload_n 0, 1) := by decide +kernel
theorem dX1_trace_43 : decode cX1_trace 43 = .ok (.iload_n 2, 1) := by decide +kernel
theorem dX1_trace_44 : decode cX1_trace 44 = .ok (.invokevirtual 149, 3) := by decide +kernel
theorem dX1_trace_47 : decode cX1_trace 47 = .ok (.ireturn, 1) := by decide +kernel
set_option maxRecDepth 20000 in
theorem ggX1_back_X1_isObject : GoodIn wsX1_back wsX1_isObject := goodIn_r _ [5, 6, 46, 47, 48, 49, 50, 51, 52, 53, 54, 55] (by decide +kernel) (by decide +kernel)
set_option maxRecDepth 20000 in
theorem gX1_back_X1_isObject : GoodIn wsX1_back (wsV RX1 62 RX1 yX1_isObject wsX1_isObject) := goodIn_app (goodIn_of _ (by decide +kernel)) ggX1_back_X1_isObject
set_option maxRecDepth 20000 in
theorem ggX1_back_X1_isLive : GoodIn wsX1_back wsX1_isLive := goodIn_r _ [10, 11, 12, 13, 4, 14, 15, 16, 17, 46, 47, 48, 49, 50, 51, 52, 53, 54, 55] (by decide +kernel) (by decide +kernel)
set_option maxRecDepth 20000 in
theorem gX1_back_X1_isLive : GoodIn wsX1_back (wsV RX1 65 RX1 yX1_isLive wsX1_isLive) := goodIn_app (goodIn_of _ (by decide +kernel)) ggX1_back_X1_isLive
set_option maxRecDepth 20000 in
theorem ggX1_back_X1_backOf : GoodIn wsX1_back wsX1_backOf := goodIn_r _ [21, 6, 15, 16, 4, 17, 22, 23, 24, 25, 26, 27, 28, 29, 30, 31, 32, 33, 46, 47, 48, 49, 50, 51, 52, 53, 54, 55] (by decide +kernel) (by decide +kernel)
set_option maxRecDepth 20000 in
theorem gX1_back_X1_backOf : GoodIn wsX1_back (wsV RX1 139 RX1 yX1_backOf wsX1_backOf) := goodIn_app (goodIn_of _ (by decide +kernel)) ggX1_back_X1_backOf
set_option maxRecDepth 20000 in
theorem ggX1_back_X1_heldBy : GoodIn wsX1_back wsX1_heldBy := goodIn_r _ [37, 38, 39, 40, 41, 42, 43, 44, 45, 12, 13, 4, 14, 15, 16, 17, 46, 47, 48, 49, 50, 51, 52, 53, 54, 55, 56, 57, 58, 59] (by decide +kernel) (by decide +kernel)
set_option maxRecDepth 20000 in
theorem gX1_back_X1_heldBy : GoodIn wsX1_back (wsV RX1 142 RX1 yX1_heldBy wsX1_heldBy) := goodIn_app (goodIn_of _ (by decide +kernel)) ggX1_back_X1_heldBy
theorem dX1_back_0 : decode cX1_back 0 = .ok (.aload_n 0, 1) := by decide +kernel
theorem dX1_back_1 : decode cX1_back 1 = .ok (.iload_n 1, 1) := by decide +kernel
theorem dX1_back_2 : decode cX1_back 2 = .ok (.invokevirtual 62, 3) := by decide +kernel
theorem dX1_back_5 : decode cX1_back 5 = .ok (.ifCond .ne 5, 3) := by decide +kernel
theorem dX1_back_8 : decode cX1_back 8 = .ok (.iconst (-1), 1) := by decide +kernel
theorem dX1_back_9 : decode cX1_back 9 = .ok (.ireturn, 1) := by decide +kernel
theorem dX1_back_10 : decode cX1_back 10 = .ok (.iload_n 2, 1) := by decide +kernel
theorem dX1_back_11 : decode cX1_back 11 = .ok (.ifCond .lt 8, 3) := by decide +kernel
theorem dX1_back_14 : decode cX1_back 14 = .ok (.iload_n 2, 1) := by decide +kernel
theorem dX1_back_15 : decode cX1_back 15 = .ok (.iconst 1, 1) := by decide +kernel
theorem dX1_back_16 : decode cX1_back 16 = .ok (.if_icmp .le 6, 3) := by decide +kernel
theorem dX1_back_19 : decode cX1_back 19 = .ok (.bipush (-2), 2) := by decide +kernel
theorem dX1_back_21 : decode cX1_back 21 = .ok (.ireturn, 1) := by decide +kernel
theorem dX1_back_22 : decode cX1_back 22 = .ok (.aload_n 0, 1) := by decide +kernel
theorem dX1_back_23 : decode cX1_back 23 = .ok (.iload_n 1, 1) := by decide +kernel
theorem dX1_back_24 : decode cX1_back 24 = .ok (.invokevirtual 65, 3) := by decide +kernel
theorem dX1_back_27 : decode cX1_back 27 = .ok (.ifCond .ne 6, 3) := by decide +kernel
theorem dX1_back_30 : decode cX1_back 30 = .ok (.bipush (-3), 2) := by decide +kernel
theorem dX1_back_32 : decode cX1_back 32 = .ok (.ireturn, 1) := by decide +kernel
theorem dX1_back_33 : decode cX1_back 33 = .ok (.aload_n 0, 1) := by decide +kernel
theorem dX1_back_34 : decode cX1_back 34 = .ok (.iload_n 1, 1) := by decide +kernel
theorem dX1_back_35 : decode cX1_back 35 = .ok (.invokevirtual 139, 3) := by decide +kernel
theorem dX1_back_38 : decode cX1_back 38 = .ok (.istore_n 3, 1) := by decide +kernel
theorem dX1_back_39 : decode cX1_back 39 = .ok (.iload_n 2, 1) := by decide +kernel
theorem dX1_back_40 : decode cX1_back 40 = .ok (.ifCond .ne 7, 3) := by decide +kernel
theorem dX1_back_43 : decode cX1_back 43 = .ok (.iload_n 3, 1) := by decide +kernel
theorem dX1_back_44 : decode cX1_back 44 = .ok (.goto 8, 3) := by decide +kernel
theorem dX1_back_47 : decode cX1_back 47 = .ok (.aload_n 0, 1) := by decide +kernel
theorem dX1_back_48 : decode cX1_back 48 = .ok (.iload_n 3, 1) := by decide +kernel
theorem dX1_back_49 : decode cX1_back 49 = .ok (.invokevirtual 142, 3) := by decide +kernel
theorem dX1_back_52 : decode cX1_back 52 = .ok (.ireturn, 1) := by decide +kernel
set_option maxRecDepth 20000 in
theorem ggX1_kill_X1_isHost : GoodIn wsX1_kill wsX1_isHost := goodIn_r _ [5] (by decide +kernel) (by decide +kernel)
set_option maxRecDepth 20000 in
theorem gX1_kill_X1_isHost : GoodIn wsX1_kill (va_wsS RX1 51 yX1_isHost wsX1_isHost) := goodIn_app (goodIn_of _ (by decide +kernel)) ggX1_kill_X1_isHost
set_option maxRecDepth 20000 in
theorem ggX1_kill_X1_isDead : GoodIn wsX1_kill wsX1_isDead := goodIn_r _ [9, 1, 10, 11, 4, 12, 13, 14, 15, 46, 47, 48, 49, 50, 51, 52, 53, 54, 55] (by decide +kernel) (by decide +kernel)
set_option maxRecDepth 20000 in
theorem gX1_kill_X1_isDead : GoodIn wsX1_kill (wsV RX1 55 RX1 yX1_isDead wsX1_isDead) := goodIn_app (goodIn_of _ (by decide +kernel)) ggX1_kill_X1_isDead
set_option maxRecDepth 20000 in
theorem ggX1_kill_X1_bit : GoodIn wsX1_kill wsX1_bit := goodIn_r _ [15] (by decide +kernel) (by decide +kernel)
set_option maxRecDepth 20000 in
theorem gX1_kill_X1_bit : GoodIn wsX1_kill (va_wsS RX1 58 yX1_bit wsX1_bit) := goodIn_app (goodIn_of _ (by decide +kernel)) ggX1_kill_X1_bit
set_option maxRecDepth 20000 in
theorem ggX1_kill_X1_livingOn : GoodIn wsX1_kill wsX1_livingOn := goodIn_r _ [19, 20, 21, 22, 23, 4, 24, 25, 26, 27, 28, 29, 30, 10, 11, 12, 13, 14, 15, 46, 47, 48, 49, 50, 51, 52, 53, 54, 55] (by decide +kernel) (by decide +kernel)
set_option maxRecDepth 20000 in
theorem gX1_kill_X1_livingOn : GoodIn wsX1_kill (wsV RX1 152 RX1 yX1_livingOn wsX1_livingOn) := goodIn_app (goodIn_of _ (by decide +kernel)) ggX1_kill_X1_livingOn
set_option maxRecDepth 20000 in
theorem ggX1_kill_X1_becomeGone : GoodIn wsX1_kill wsX1_becomeGone := goodIn_r _ [34, 20, 35, 30, 10, 11, 4, 12, 13, 14, 15, 36, 37, 38, 39, 40, 41, 42, 43, 44, 45, 46, 47, 48, 49, 50, 51, 52, 53, 54, 55] (by decide +kernel) (by decide +kernel)
set_option maxRecDepth 20000 in
theorem gX1_kill_X1_becomeGone : GoodIn wsX1_kill (wsV RX1 149 RX1 yX1_becomeGone wsX1_becomeGone) := goodIn_app (goodIn_of _ (by decide +kernel)) ggX1_kill_X1_becomeGone
theorem dX1_kill_0 : decode cX1_kill 0 = .ok (.iload_n 1, 1) := by decide +kernel
theorem dX1_kill_1 : decode cX1_kill 1 = .ok (.invokestatic 51, 3) := by decide +kernel
theorem dX1_kill_4 : decode cX1_kill 4 = .ok (.ifCond .ne 5, 3) := by decide +kernel
theorem dX1_kill_7 : decode cX1_kill 7 = .ok (.iconst (-1), 1) := by decide +kernel
theorem dX1_kill_8 : decode cX1_kill 8 = .ok (.ireturn, 1) := by decide +kernel
theorem dX1_kill_9 : decode cX1_kill 9 = .ok (.aload_n 0, 1) := by decide +kernel
theorem dX1_kill_10 : decode cX1_kill 10 = .ok (.iload_n 1, 1) := by decide +kernel
theorem dX1_kill_11 : decode cX1_kill 11 = .ok (.invokevirtual 55, 3) := by decide +kernel
theorem dX1_kill_14 : decode cX1_kill 14 = .ok (.ifCond .eq 6, 3) := by decide +kernel
theorem dX1_kill_17 : decode cX1_kill 17 = .ok (.bipush (-3), 2) := by decide +kernel
theorem dX1_kill_19 : decode cX1_kill 19 = .ok (.ireturn, 1) := by decide +kernel
theorem dX1_kill_20 : decode cX1_kill 20 = .ok (.aload_n 0, 1) := by decide +kernel
theorem dX1_kill_21 : decode cX1_kill 21 = .ok (.dup, 1) := by decide +kernel
theorem dX1_kill_22 : decode cX1_kill 22 = .ok (.getfield 45, 3) := by decide +kernel
theorem dX1_kill_25 : decode cX1_kill 25 = .ok (.iload_n 1, 1) := by decide +kernel
theorem dX1_kill_26 : decode cX1_kill 26 = .ok (.invokestatic 58, 3) := by decide +kernel
theorem dX1_kill_29 : decode cX1_kill 29 = .ok (.ior, 1) := by decide +kernel
theorem dX1_kill_30 : decode cX1_kill 30 = .ok (.putfield 45, 3) := by decide +kernel
theorem dX1_kill_33 : decode cX1_kill 33 = .ok (.aload_n 0, 1) := by decide +kernel
theorem dX1_kill_34 : decode cX1_kill 34 = .ok (.aload_n 0, 1) := by decide +kernel
theorem dX1_kill_35 : decode cX1_kill 35 = .ok (.iload_n 1, 1) := by decide +kernel
theorem dX1_kill_36 : decode cX1_kill 36 = .ok (.invokevirtual 152, 3) := by decide +kernel
theorem dX1_kill_39 : decode cX1_kill 39 = .ok (.invokevirtual 149, 3) := by decide +kernel
theorem dX1_kill_42 : decode cX1_kill 42 = .ok (.ireturn, 1) := by decide +kernel
set_option maxRecDepth 20000 in
theorem ggX1_recover_X1_isLive : GoodIn wsX1_recover wsX1_isLive := goodIn_r _ [7, 8, 9, 10, 6, 11, 12, 13, 14, 42, 43, 44, 45, 46, 47, 48, 49, 50, 51] (by decide +kernel) (by decide +kernel)
set_option maxRecDepth 20000 in
theorem gX1_recover_X1_isLive : GoodIn wsX1_recover (wsV RX1 65 RX1 yX1_isLive wsX1_isLive) := goodIn_app (goodIn_of _ (by decide +kernel)) ggX1_recover_X1_isLive
set_option maxRecDepth 20000 in
theorem ggX1_recover_X1_inLinksTo : GoodIn wsX1_recover wsX1_inLinksTo := goodIn_r _ [18, 1, 19, 20, 21, 22, 6, 23, 24, 25, 26, 42, 43, 44, 45, 46, 47, 48, 49, 50, 51] (by decide +kernel) (by decide +kernel)
set_option maxRecDepth 20000 in
theorem gX1_recover_X1_inLinksTo : GoodIn wsX1_recover (wsV RX1 155 RX1 yX1_inLinksTo wsX1_inLinksTo) := goodIn_app (goodIn_of _ (by decide +kernel)) ggX1_recover_X1_inLinksTo
set_option maxRecDepth 20000 in
theorem ggX1_recover_X1_inLettersAbout : GoodIn wsX1_recover wsX1_inLettersAbout := goodIn_r _ [30, 31, 32, 33, 34, 6, 35, 36, 37, 38, 39, 40, 41, 9, 10, 11, 12, 13, 14, 42, 43, 44, 45, 46, 47, 48, 49, 50, 51, 52, 53, 54, 55] (by decide +kernel) (by decide +kernel)
set_option maxRecDepth 20000 in
theorem gX1_recover_X1_inLettersAbout : GoodIn wsX1_recover (wsV RX1 158 RX1 yX1_inLettersAbout wsX1_inLettersAbout) := goodIn_app (goodIn_of _ (by decide +kernel)) ggX1_recover_X1_inLettersAbout
theorem dX1_recover_0 : decode cX1_recover 0 = .ok (.iconst 0, 1) := by decide +kernel
theorem dX1_recover_1 : decode cX1_recover 1 = .ok (.istore_n 1, 1) := by decide +kernel
theorem dX1_recover_2 : decode cX1_recover 2 = .ok (.iconst 0, 1) := by decide +kernel
theorem dX1_recover_3 : decode cX1_recover 3 = .ok (.istore_n 2, 1) := by decide +kernel
theorem dX1_recover_4 : decode cX1_recover 4 = .ok (.iload_n 2, 1) := by decide +kernel
theorem dX1_recover_5 : decode cX1_recover 5 = .ok (.aload_n 0, 1) := by decide +kernel
theorem dX1_recover_6 : decode cX1_recover 6 = .ok (.getfield 35, 3) := by decide +kernel
theorem dX1_recover_9 : decode cX1_recover 9 = .ok (.if_icmp .ge 48, 3) := by decide +kernel
theorem dX1_recover_12 : decode cX1_recover 12 = .ok (.aload_n 0, 1) := by decide +kernel
theorem dX1_recover_13 : decode cX1_recover 13 = .ok (.iload_n 2, 1) := by decide +kernel
theorem dX1_recover_14 : decode cX1_recover 14 = .ok (.invokevirtual 65, 3) := by decide +kernel
theorem dX1_recover_17 : decode cX1_recover 17 = .ok (.ifCond .eq 34, 3) := by decide +kernel
theorem dX1_recover_20 : decode cX1_recover 20 = .ok (.aload_n 0, 1) := by decide +kernel
theorem dX1_recover_21 : decode cX1_recover 21 = .ok (.iload_n 2, 1) := by decide +kernel
theorem dX1_recover_22 : decode cX1_recover 22 = .ok (.invokevirtual 155, 3) := by decide +kernel
theorem dX1_recover_25 : decode cX1_recover 25 = .ok (.aload_n 0, 1) := by decide +kernel
theorem dX1_recover_26 : decode cX1_recover 26 = .ok (.iload_n 2, 1) := by decide +kernel
theorem dX1_recover_27 : decode cX1_recover 27 = .ok (.iconst 0, 1) := by decide +kernel
theorem dX1_recover_28 : decode cX1_recover 28 = .ok (.invokevirtual 158, 3) := by decide +kernel
theorem dX1_recover_31 : decode cX1_recover 31 = .ok (.iadd, 1) := by decide +kernel
theorem dX1_recover_32 : decode cX1_recover 32 = .ok (.istore_n 3, 1) := by decide +kernel
theorem dX1_recover_33 : decode cX1_recover 33 = .ok (.iload_n 1, 1) := by decide +kernel
theorem dX1_recover_34 : decode cX1_recover 34 = .ok (.aload_n 0, 1) := by decide +kernel
theorem dX1_recover_35 : decode cX1_recover 35 = .ok (.getfield 13, 3) := by decide +kernel
theorem dX1_recover_38 : decode cX1_recover 38 = .ok (.iload_n 2, 1) := by decide +kernel
theorem dX1_recover_39 : decode cX1_recover 39 = .ok (.iaload, 1) := by decide +kernel
theorem dX1_recover_40 : decode cX1_recover 40 = .ok (.iload_n 3, 1) := by decide +kernel
theorem dX1_recover_41 : decode cX1_recover 41 = .ok (.isub, 1) := by decide +kernel
theorem dX1_recover_42 : decode cX1_recover 42 = .ok (.iadd, 1) := by decide +kernel
theorem dX1_recover_43 : decode cX1_recover 43 = .ok (.istore_n 1, 1) := by decide +kernel
theorem dX1_recover_44 : decode cX1_recover 44 = .ok (.aload_n 0, 1) := by decide +kernel
theorem dX1_recover_45 : decode cX1_recover 45 = .ok (.getfield 13, 3) := by decide +kernel
theorem dX1_recover_48 : decode cX1_recover 48 = .ok (.iload_n 2, 1) := by decide +kernel
theorem dX1_recover_49 : decode cX1_recover 49 = .ok (.iload_n 3, 1) := by decide +kernel
theorem dX1_recover_50 : decode cX1_recover 50 = .ok (.iastore, 1) := by decide +kernel
theorem dX1_recover_51 : decode cX1_recover 51 = .ok (.iinc 2 1, 3) := by decide +kernel
theorem dX1_recover_54 : decode cX1_recover 54 = .ok (.goto (-50), 3) := by decide +kernel
theorem dX1_recover_57 : decode cX1_recover 57 = .ok (.iload_n 1, 1) := by decide +kernel
theorem dX1_recover_58 : decode cX1_recover 58 = .ok (.ireturn, 1) := by decide +kernel
set_option maxRecDepth 20000 in
theorem ggX1_settle_X1_deliverAll : GoodIn wsX1_settle wsX1_deliverAll := goodIn_r _ [6, 1, 7, 8, 9, 5, 10, 11, 12, 13, 14, 15, 16, 17, 18, 19, 20, 21, 22, 23, 24, 25, 26, 27, 28, 29, 30, 31, 32, 33, 34, 35, 36, 37, 38, 39, 40, 41, 42, 43, 44, 45, 46, 47, 48, 49, 50, 51, 52, 53, 54, 55, 56, 57, 58, 59, 60, 61, 62, 63, 64, 65, 66, 67, 68, 69, 70, 71, 72, 73, 74, 120, 121, 122, 123, 124, 125, 126, 127, 128, 129, 130, 131, 132, 133] (by decide +kernel) (by decide +kernel)
set_option maxRecDepth 20000 in
theorem gX1_settle_X1_deliverAll : GoodIn wsX1_settle (wsV RX1 162 RX1 yX1_deliverAll wsX1_deliverAll) := goodIn_app (goodIn_of _ (by decide +kernel)) ggX1_settle_X1_deliverAll
set_option maxRecDepth 20000 in
theorem ggX1_settle_X1_isDead : GoodIn wsX1_settle wsX1_isDead := goodIn_r _ [37, 38, 39, 40, 5, 41, 42, 43, 44, 120, 121, 122, 123, 124, 125, 126, 127, 128, 129] (by decide +kernel) (by decide +kernel)
set_option maxRecDepth 20000 in
theorem gX1_settle_X1_isDead : GoodIn wsX1_settle (wsV RX1 55 RX1 yX1_isDead wsX1_isDead) := goodIn_app (goodIn_of _ (by decide +kernel)) ggX1_settle_X1_isDead
set_option maxRecDepth 20000 in
theorem ggX1_settle_X1_collectOn : GoodIn wsX1_settle wsX1_collectOn := goodIn_r _ [78, 79, 80, 81, 82, 5, 83, 84, 85, 86, 87, 88, 33, 45, 46, 47, 48, 49, 39, 40, 41, 42, 43, 44, 89, 90, 91, 92, 11, 93, 94, 95, 96, 58, 97, 98, 99, 100, 59, 101, 102, 103, 104, 105, 106, 107, 108, 1, 64, 65, 66, 67, 68, 69, 15, 70, 71, 72, 73, 74, 22, 23, 17, 28, 109, 110, 111, 112, 113, 114, 115, 116, 117, 118, 119, 120, 121, 122, 123, 124, 125, 126, 127, 128, 129, 130, 131, 132, 133] (by decide +kernel) (by decide +kernel)
set_option maxRecDepth 20000 in
theorem gX1_settle_X1_collectOn : GoodIn wsX1_settle (wsV RX1 130 RX1 yX1_collectOn wsX1_collectOn) := goodIn_app (goodIn_of _ (by decide +kernel)) ggX1_settle_X1_collectOn
theorem dX1_settle_0 : decode cX1_settle 0 = .ok (.iconst 0, 1) := by decide +kernel
theorem dX1_settle_1 : decode cX1_settle 1 = .ok (.istore_n 1, 1) := by decide +kernel
theorem dX1_settle_2 : decode cX1_settle 2 = .ok (.iconst 0, 1) := by decide +kernel
theorem dX1_settle_3 : decode cX1_settle 3 = .ok (.istore_n 2, 1) := by decide +kernel
theorem dX1_settle_4 : decode cX1_settle 4 = .ok (.iload_n 2, 1) := by decide +kernel
theorem dX1_settle_5 : decode cX1_settle 5 = .ok (.bipush 10, 2) := by decide +kernel
theorem dX1_settle_7 : decode cX1_settle 7 = .ok (.if_icmp .gt 66, 3) := by decide +kernel
theorem dX1_settle_10 : decode cX1_settle 10 = .ok (.aload_n 0, 1) := by decide +kernel
theorem dX1_settle_11 : decode cX1_settle 11 = .ok (.invokevirtual 162, 3) := by decide +kernel
theorem dX1_settle_14 : decode cX1_settle 14 = .ok (.iload_n 1, 1) := by decide +kernel
theorem dX1_settle_15 : decode cX1_settle 15 = .ok (.istore_n 3, 1) := by decide +kernel
theorem dX1_settle_16 : decode cX1_settle 16 = .ok (.iconst 0, 1) := by decide +kernel
theorem dX1_settle_17 : decode cX1_settle 17 = .ok (.istore 4, 2) := by decide +kernel
theorem dX1_settle_19 : decode cX1_settle 19 = .ok (.iload 4, 2) := by decide +kernel
theorem dX1_settle_21 : decode cX1_settle 21 = .ok (.iconst 4, 1) := by decide +kernel
theorem dX1_settle_22 : decode cX1_settle 22 = .ok (.if_icmp .ge 27, 3) := by decide +kernel
theorem dX1_settle_25 : decode cX1_settle 25 = .ok (.aload_n 0, 1) := by decide +kernel
theorem dX1_settle_26 : decode cX1_settle 26 = .ok (.iload 4, 2) := by decide +kernel
theorem dX1_settle_28 : decode cX1_settle 28 = .ok (.invokevirtual 55, 3) := by decide +kernel
theorem dX1_settle_31 : decode cX1_settle 31 = .ok (.ifCond .ne 12, 3) := by decide +kernel
theorem dX1_settle_34 : decode cX1_settle 34 = .ok (.iload_n 1, 1) := by decide +kernel
theorem dX1_settle_35 : decode cX1_settle 35 = .ok (.aload_n 0, 1) := by decide +kernel
theorem dX1_settle_36 : decode cX1_settle 36 = .ok (.iload 4, 2) := by decide +kernel
theorem dX1_settle_38 : decode cX1_settle 38 = .ok (.invokevirtual 130, 3) := by decide +kernel
theorem dX1_settle_41 : decode cX1_settle 41 = .ok (.iadd, 1) := by decide +kernel
theorem dX1_settle_42 : decode cX1_settle 42 = .ok (.istore_n 1, 1) := by decide +kernel
theorem dX1_settle_43 : decode cX1_settle 43 = .ok (.iinc 4 1, 3) := by decide +kernel
theorem dX1_settle_46 : decode cX1_settle 46 = .ok (.goto (-27), 3) := by decide +kernel
theorem dX1_settle_49 : decode cX1_settle 49 = .ok (.iload_n 1, 1) := by decide +kernel
theorem dX1_settle_50 : decode cX1_settle 50 = .ok (.iload_n 3, 1) := by decide +kernel
theorem dX1_settle_51 : decode cX1_settle 51 = .ok (.if_icmp .ne 16, 3) := by decide +kernel
theorem dX1_settle_54 : decode cX1_settle 54 = .ok (.aload_n 0, 1) := by decide +kernel
theorem dX1_settle_55 : decode cX1_settle 55 = .ok (.getfield 31, 3) := by decide +kernel
theorem dX1_settle_58 : decode cX1_settle 58 = .ok (.getfield 86, 3) := by decide +kernel
theorem dX1_settle_61 : decode cX1_settle 61 = .ok (.ifCond .ne 6, 3) := by decide +kernel
theorem dX1_settle_64 : decode cX1_settle 64 = .ok (.goto 9, 3) := by decide +kernel
theorem dX1_settle_67 : decode cX1_settle 67 = .ok (.iinc 2 1, 3) := by decide +kernel
theorem dX1_settle_70 : decode cX1_settle 70 = .ok (.goto (-66), 3) := by decide +kernel
theorem dX1_settle_73 : decode cX1_settle 73 = .ok (.iload_n 1, 1) := by decide +kernel
theorem dX1_settle_74 : decode cX1_settle 74 = .ok (.ireturn, 1) := by decide +kernel
set_option maxRecDepth 20000 in
theorem ggX1_reached_X1_oneStepOn : GoodIn wsX1_reached wsX1_oneStepOn := goodIn_r _ [7, 8, 9, 1, 10, 11, 6, 12, 13, 14, 15, 16, 17, 18, 19, 20, 21, 22, 23, 24, 25, 26, 27, 28, 29, 30, 31, 32, 33, 34, 35, 36, 37, 38, 39, 40, 41, 42, 43, 44, 45, 46, 47] (by decide +kernel) (by decide +kernel)
set_option maxRecDepth 20000 in
theorem gX1_reached_X1_oneStepOn : GoodIn wsX1_reached (wsV RX1 165 RX1 yX1_oneStepOn wsX1_oneStepOn) := goodIn_app (goodIn_of _ (by decide +kernel)) ggX1_reached_X1_oneStepOn
theorem dX1_reached_0 : decode cX1_reached 0 = .ok (.aload_n 0, 1) := by decide +kernel
theorem dX1_reached_1 : decode cX1_reached 1 = .ok (.getfield 39, 3) := by decide +kernel
theorem dX1_reached_4 : decode cX1_reached 4 = .ok (.aload_n 0, 1) := by decide +kernel
theorem dX1_reached_5 : decode cX1_reached 5 = .ok (.getfield 42, 3) := by decide +kernel
theorem dX1_reached_8 : decode cX1_reached 8 = .ok (.iand, 1) := by decide +kernel
theorem dX1_reached_9 : decode cX1_reached 9 = .ok (.istore_n 1, 1) := by decide +kernel
theorem dX1_reached_10 : decode cX1_reached 10 = .ok (.iconst 0, 1) := by decide +kernel
theorem dX1_reached_11 : decode cX1_reached 11 = .ok (.istore_n 2, 1) := by decide +kernel
theorem dX1_reached_12 : decode cX1_reached 12 = .ok (.iload_n 2, 1) := by decide +kernel
theorem dX1_reached_13 : decode cX1_reached 13 = .ok (.bipush 10, 2) := by decide +kernel
theorem dX1_reached_15 : decode cX1_reached 15 = .ok (.if_icmp .ge 15, 3) := by decide +kernel
theorem dX1_reached_18 : decode cX1_reached 18 = .ok (.aload_n 0, 1) := by decide +kernel
theorem dX1_reached_19 : decode cX1_reached 19 = .ok (.iload_n 1, 1) := by decide +kernel
theorem dX1_reached_20 : decode cX1_reached 20 = .ok (.invokevirtual 165, 3) := by decide +kernel
theorem dX1_reached_23 : decode cX1_reached 23 = .ok (.istore_n 1, 1) := by decide +kernel
theorem dX1_reached_24 : decode cX1_reached 24 = .ok (.iinc 2 1, 3) := by decide +kernel
theorem dX1_reached_27 : decode cX1_reached 27 = .ok (.goto (-15), 3) := by decide +kernel
theorem dX1_reached_30 : decode cX1_reached 30 = .ok (.iload_n 1, 1) := by decide +kernel
theorem dX1_reached_31 : decode cX1_reached 31 = .ok (.ireturn, 1) := by decide +kernel
set_option maxRecDepth 20000 in
theorem ggX1_far_X1_isObject : GoodIn wsX1_far wsX1_isObject := goodIn_r _ [7, 8, 42, 43, 44, 45, 46, 47, 48, 49, 50, 51] (by decide +kernel) (by decide +kernel)
set_option maxRecDepth 20000 in
theorem gX1_far_X1_isObject : GoodIn wsX1_far (wsV RX1 62 RX1 yX1_isObject wsX1_isObject) := goodIn_app (goodIn_of _ (by decide +kernel)) ggX1_far_X1_isObject
set_option maxRecDepth 20000 in
theorem ggX1_far_X1_isLive : GoodIn wsX1_far wsX1_isLive := goodIn_r _ [12, 1, 13, 14, 6, 15, 16, 17, 18, 42, 43, 44, 45, 46, 47, 48, 49, 50, 51] (by decide +kernel) (by decide +kernel)
set_option maxRecDepth 20000 in
theorem gX1_far_X1_isLive : GoodIn wsX1_far (wsV RX1 65 RX1 yX1_isLive wsX1_isLive) := goodIn_app (goodIn_of _ (by decide +kernel)) ggX1_far_X1_isLive
set_option maxRecDepth 20000 in
theorem ggX1_far_X1_isIn : GoodIn wsX1_far wsX1_isIn := goodIn_r _ [15, 16, 17, 6, 18] (by decide +kernel) (by decide +kernel)
set_option maxRecDepth 20000 in
theorem gX1_far_X1_isIn : GoodIn wsX1_far (va_wsS RX1 68 yX1_isIn wsX1_isIn) := goodIn_app (goodIn_of _ (by decide +kernel)) ggX1_far_X1_isIn
set_option maxRecDepth 20000 in
theorem ggX1_far_X1_oneStepOn : GoodIn wsX1_far wsX1_oneStepOn := goodIn_r _ [22, 8, 23, 1, 13, 14, 6, 15, 16, 17, 18, 24, 25, 26, 27, 28, 29, 30, 31, 32, 33, 34, 35, 36, 37, 38, 39, 40, 41, 42, 43, 44, 45, 46, 47, 48, 49, 50, 51, 52, 53, 54, 55] (by decide +kernel) (by decide +kernel)
set_option maxRecDepth 20000 in
theorem gX1_far_X1_oneStepOn : GoodIn wsX1_far (wsV RX1 165 RX1 yX1_oneStepOn wsX1_oneStepOn) := goodIn_app (goodIn_of _ (by decide +kernel)) ggX1_far_X1_oneStepOn
theorem dX1_far_0 : decode cX1_far 0 = .ok (.aload_n 0, 1) := by decide +kernel
theorem dX1_far_1 : decode cX1_far 1 = .ok (.iload_n 1, 1) := by decide +kernel
theorem dX1_far_2 : decode cX1_far 2 = .ok (.invokevirtual 62, 3) := by decide +kernel
theorem dX1_far_5 : decode cX1_far 5 = .ok (.ifCond .ne 5, 3) := by decide +kernel
theorem dX1_far_8 : decode cX1_far 8 = .ok (.iconst (-1), 1) := by decide +kernel
theorem dX1_far_9 : decode cX1_far 9 = .ok (.ireturn, 1) := by decide +kernel
theorem dX1_far_10 : decode cX1_far 10 = .ok (.aload_n 0, 1) := by decide +kernel
theorem dX1_far_11 : decode cX1_far 11 = .ok (.iload_n 1, 1) := by decide +kernel
theorem dX1_far_12 : decode cX1_far 12 = .ok (.invokevirtual 65, 3) := by decide +kernel
theorem dX1_far_15 : decode cX1_far 15 = .ok (.ifCond .ne 6, 3) := by decide +kernel
theorem dX1_far_18 : decode cX1_far 18 = .ok (.bipush (-3), 2) := by decide +kernel
theorem dX1_far_20 : decode cX1_far 20 = .ok (.ireturn, 1) := by decide +kernel
theorem dX1_far_21 : decode cX1_far 21 = .ok (.aload_n 0, 1) := by decide +kernel
theorem dX1_far_22 : decode cX1_far 22 = .ok (.getfield 39, 3) := by decide +kernel
theorem dX1_far_25 : decode cX1_far 25 = .ok (.aload_n 0, 1) := by decide +kernel
theorem dX1_far_26 : decode cX1_far 26 = .ok (.getfield 42, 3) := by decide +kernel
theorem dX1_far_29 : decode cX1_far 29 = .ok (.iand, 1) := by decide +kernel
theorem dX1_far_30 : decode cX1_far 30 = .ok (.istore_n 2, 1) := by decide +kernel
theorem dX1_far_31 : decode cX1_far 31 = .ok (.iconst 0, 1) := by decide +kernel
theorem dX1_far_32 : decode cX1_far 32 = .ok (.istore_n 3, 1) := by decide +kernel
theorem dX1_far_33 : decode cX1_far 33 = .ok (.iload_n 3, 1) := by decide +kernel
theorem dX1_far_34 : decode cX1_far 34 = .ok (.bipush 10, 2) := by decide +kernel
theorem dX1_far_36 : decode cX1_far 36 = .ok (.if_icmp .ge 25, 3) := by decide +kernel
theorem dX1_far_39 : decode cX1_far 39 = .ok (.iload_n 2, 1) := by decide +kernel
theorem dX1_far_40 : decode cX1_far 40 = .ok (.iload_n 1, 1) := by decide +kernel
theorem dX1_far_41 : decode cX1_far 41 = .ok (.invokestatic 68, 3) := by decide +kernel
theorem dX1_far_44 : decode cX1_far 44 = .ok (.ifCond .eq 5, 3) := by decide +kernel
theorem dX1_far_47 : decode cX1_far 47 = .ok (.iload_n 3, 1) := by decide +kernel
theorem dX1_far_48 : decode cX1_far 48 = .ok (.ireturn, 1) := by decide +kernel
theorem dX1_far_49 : decode cX1_far 49 = .ok (.aload_n 0, 1) := by decide +kernel
theorem dX1_far_50 : decode cX1_far 50 = .ok (.iload_n 2, 1) := by decide +kernel
theorem dX1_far_51 : decode cX1_far 51 = .ok (.invokevirtual 165, 3) := by decide +kernel
theorem dX1_far_54 : decode cX1_far 54 = .ok (.istore_n 2, 1) := by decide +kernel
theorem dX1_far_55 : decode cX1_far 55 = .ok (.iinc 3 1, 3) := by decide +kernel
theorem dX1_far_58 : decode cX1_far 58 = .ok (.goto (-25), 3) := by decide +kernel
theorem dX1_far_61 : decode cX1_far 61 = .ok (.bipush (-9), 2) := by decide +kernel
theorem dX1_far_63 : decode cX1_far 63 = .ok (.ireturn, 1) := by decide +kernel
set_option maxRecDepth 20000 in
theorem ggX1_many_J6_bitCount_0f7a4 : GoodIn wsX1_many wsJ6_bitCount_0f7a4 := goodIn_r _ [8, 9, 10, 11] (by decide +kernel) (by decide +kernel)
set_option maxRecDepth 20000 in
theorem gX1_many_J6_bitCount_0f7a4 : GoodIn wsX1_many (va_wsS RX1 168 yJ6_bitCount_0f7a4 wsJ6_bitCount_0f7a4) := goodIn_app (goodIn_of _ (by decide +kernel)) ggX1_many_J6_bitCount_0f7a4
set_option maxRecDepth 20000 in
theorem ggX1_many_X1_nearLinks : GoodIn wsX1_many wsX1_nearLinks := goodIn_r _ [16, 17, 81, 82, 83, 84, 85, 86, 87, 88, 89, 90] (by decide +kernel) (by decide +kernel)
set_option maxRecDepth 20000 in
theorem gX1_many_X1_nearLinks : GoodIn wsX1_many (wsV RX1 173 RX1 yX1_nearLinks wsX1_nearLinks) := goodIn_app (goodIn_of _ (by decide +kernel)) ggX1_many_X1_nearLinks
set_option maxRecDepth 20000 in
theorem ggX1_many_X1_farLinks : GoodIn wsX1_many wsX1_farLinks := goodIn_r _ [21, 17, 81, 82, 83, 84, 85, 86, 87, 88, 89, 90] (by decide +kernel) (by decide +kernel)
set_option maxRecDepth 20000 in
theorem gX1_many_X1_farLinks : GoodIn wsX1_many (wsV RX1 177 RX1 yX1_farLinks wsX1_farLinks) := goodIn_app (goodIn_of _ (by decide +kernel)) ggX1_many_X1_farLinks
set_option maxRecDepth 20000 in
theorem ggX1_many_X1_reached : GoodIn wsX1_many wsX1_reached := goodIn_r _ [25, 1, 26, 27, 28, 29, 15, 30, 31, 2, 32, 33, 34, 35, 36, 37, 38, 39, 40, 41, 42, 43, 44, 45, 17, 46, 47, 48, 49, 50, 51, 52, 53, 54, 81, 82, 83, 84, 85, 86, 87, 88, 89, 90, 91, 92, 93, 94] (by decide +kernel) (by decide +kernel)
set_option maxRecDepth 20000 in
theorem gX1_many_X1_reached : GoodIn wsX1_many (wsV RX1 180 RX1 yX1_reached wsX1_reached) := goodIn_app (goodIn_of _ (by decide +kernel)) ggX1_many_X1_reached
set_option maxRecDepth 20000 in
theorem ggX1_many_X1_isBalanced : GoodIn wsX1_many wsX1_isBalanced := goodIn_r _ [58, 31, 59, 60, 61, 62, 15, 63, 1, 32, 33, 34, 35, 36, 37, 64, 65, 66, 67, 17, 42, 43, 44, 45, 46, 47, 48, 68, 69, 70, 71, 2, 72, 73, 74, 75, 76, 77, 78, 79, 80, 3, 81, 82, 83, 84, 85, 86, 87, 88, 89, 90, 91, 92, 93, 94] (by decide +kernel) (by decide +kernel)
set_option maxRecDepth 20000 in
theorem gX1_many_X1_isBalanced : GoodIn wsX1_many (wsV RX1 183 RX1 yX1_isBalanced wsX1_isBalanced) := goodIn_app (goodIn_of _ (by decide +kernel)) ggX1_many_X1_isBalanced
theorem dX1_many_0 : decode cX1_many 0 = .ok (.iload_n 1, 1) := by decide +kernel
theorem dX1_many_1 : decode cX1_many 1 = .ok (.tableswitch 116 0 7 #[47, 55, 63, 68, 73, 83, 98, 103], 47) := by decide +kernel
theorem dX1_many_48 : decode cX1_many 48 = .ok (.aload_n 0, 1) := by decide +kernel
theorem dX1_many_49 : decode cX1_many 49 = .ok (.getfield 39, 3) := by decide +kernel
theorem dX1_many_52 : decode cX1_many 52 = .ok (.invokestatic 168, 3) := by decide +kernel
theorem dX1_many_55 : decode cX1_many 55 = .ok (.ireturn, 1) := by decide +kernel
theorem dX1_many_56 : decode cX1_many 56 = .ok (.aload_n 0, 1) := by decide +kernel
theorem dX1_many_57 : decode cX1_many 57 = .ok (.getfield 31, 3) := by decide +kernel
theorem dX1_many_60 : decode cX1_many 60 = .ok (.getfield 86, 3) := by decide +kernel
theorem dX1_many_63 : decode cX1_many 63 = .ok (.ireturn, 1) := by decide +kernel
theorem dX1_many_64 : decode cX1_many 64 = .ok (.aload_n 0, 1) := by decide +kernel
theorem dX1_many_65 : decode cX1_many 65 = .ok (.invokevirtual 173, 3) := by decide +kernel
theorem dX1_many_68 : decode cX1_many 68 = .ok (.ireturn, 1) := by decide +kernel
theorem dX1_many_69 : decode cX1_many 69 = .ok (.aload_n 0, 1) := by decide +kernel
theorem dX1_many_70 : decode cX1_many 70 = .ok (.invokevirtual 177, 3) := by decide +kernel
theorem dX1_many_73 : decode cX1_many 73 = .ok (.ireturn, 1) := by decide +kernel
theorem dX1_many_74 : decode cX1_many 74 = .ok (.iconst 4, 1) := by decide +kernel
theorem dX1_many_75 : decode cX1_many 75 = .ok (.aload_n 0, 1) := by decide +kernel
theorem dX1_many_76 : decode cX1_many 76 = .ok (.getfield 45, 3) := by decide +kernel
theorem dX1_many_79 : decode cX1_many 79 = .ok (.invokestatic 168, 3) := by decide +kernel
theorem dX1_many_82 : decode cX1_many 82 = .ok (.isub, 1) := by decide +kernel
theorem dX1_many_83 : decode cX1_many 83 = .ok (.ireturn, 1) := by decide +kernel
theorem dX1_many_84 : decode cX1_many 84 = .ok (.aload_n 0, 1) := by decide +kernel
theorem dX1_many_85 : decode cX1_many 85 = .ok (.getfield 39, 3) := by decide +kernel
theorem dX1_many_88 : decode cX1_many 88 = .ok (.aload_n 0, 1) := by decide +kernel
theorem dX1_many_89 : decode cX1_many 89 = .ok (.invokevirtual 180, 3) := by decide +kernel
theorem dX1_many_92 : decode cX1_many 92 = .ok (.iconst (-1), 1) := by decide +kernel
theorem dX1_many_93 : decode cX1_many 93 = .ok (.ixor, 1) := by decide +kernel
theorem dX1_many_94 : decode cX1_many 94 = .ok (.iand, 1) := by decide +kernel
theorem dX1_many_95 : decode cX1_many 95 = .ok (.invokestatic 168, 3) := by decide +kernel
theorem dX1_many_98 : decode cX1_many 98 = .ok (.ireturn, 1) := by decide +kernel
theorem dX1_many_99 : decode cX1_many 99 = .ok (.aload_n 0, 1) := by decide +kernel
theorem dX1_many_100 : decode cX1_many 100 = .ok (.getfield 48, 3) := by decide +kernel
theorem dX1_many_103 : decode cX1_many 103 = .ok (.ireturn, 1) := by decide +kernel
theorem dX1_many_104 : decode cX1_many 104 = .ok (.aload_n 0, 1) := by decide +kernel
theorem dX1_many_105 : decode cX1_many 105 = .ok (.invokevirtual 183, 3) := by decide +kernel
theorem dX1_many_108 : decode cX1_many 108 = .ok (.ifCond .eq 7, 3) := by decide +kernel
theorem dX1_many_111 : decode cX1_many 111 = .ok (.iconst 1, 1) := by decide +kernel
theorem dX1_many_112 : decode cX1_many 112 = .ok (.goto 4, 3) := by decide +kernel
theorem dX1_many_115 : decode cX1_many 115 = .ok (.iconst 0, 1) := by decide +kernel
theorem dX1_many_116 : decode cX1_many 116 = .ok (.ireturn, 1) := by decide +kernel
theorem dX1_many_117 : decode cX1_many 117 = .ok (.bipush (-2), 2) := by decide +kernel
theorem dX1_many_119 : decode cX1_many 119 = .ok (.ireturn, 1) := by decide +kernel
theorem dX1_bit_0 : decode cX1_bit 0 = .ok (.iconst 1, 1) := by decide +kernel
theorem dX1_bit_1 : decode cX1_bit 1 = .ok (.iload_n 0, 1) := by decide +kernel
theorem dX1_bit_2 : decode cX1_bit 2 = .ok (.ishl, 1) := by decide +kernel
theorem dX1_bit_3 : decode cX1_bit 3 = .ok (.ireturn, 1) := by decide +kernel
set_option maxRecDepth 20000 in
theorem ggX1_isIn_X1_bit : GoodIn wsX1_isIn wsX1_bit := goodIn_r _ [4] (by decide +kernel) (by decide +kernel)
set_option maxRecDepth 20000 in
theorem gX1_isIn_X1_bit : GoodIn wsX1_isIn (va_wsS RX1 58 yX1_bit wsX1_bit) := goodIn_app (goodIn_of _ (by decide +kernel)) ggX1_isIn_X1_bit
theorem dX1_isIn_0 : decode cX1_isIn 0 = .ok (.iload_n 0, 1) := by decide +kernel
theorem dX1_isIn_1 : decode cX1_isIn 1 = .ok (.iload_n 1, 1) := by decide +kernel
theorem dX1_isIn_2 : decode cX1_isIn 2 = .ok (.invokestatic 58, 3) := by decide +kernel
theorem dX1_isIn_5 : decode cX1_isIn 5 = .ok (.iand, 1) := by decide +kernel
theorem dX1_isIn_6 : decode cX1_isIn 6 = .ok (.ifCond .eq 7, 3) := by decide +kernel
theorem dX1_isIn_9 : decode cX1_isIn 9 = .ok (.iconst 1, 1) := by decide +kernel
theorem dX1_isIn_10 : decode cX1_isIn 10 = .ok (.goto 4, 3) := by decide +kernel
theorem dX1_isIn_13 : decode cX1_isIn 13 = .ok (.iconst 0, 1) := by decide +kernel
theorem dX1_isIn_14 : decode cX1_isIn 14 = .ok (.ireturn, 1) := by decide +kernel
theorem dX1_at_0 : decode cX1_at 0 = .ok (.iload_n 0, 1) := by decide +kernel
theorem dX1_at_1 : decode cX1_at 1 = .ok (.bipush 10, 2) := by decide +kernel
theorem dX1_at_3 : decode cX1_at 3 = .ok (.imul, 1) := by decide +kernel
theorem dX1_at_4 : decode cX1_at 4 = .ok (.iload_n 1, 1) := by decide +kernel
theorem dX1_at_5 : decode cX1_at 5 = .ok (.iadd, 1) := by decide +kernel
theorem dX1_at_6 : decode cX1_at 6 = .ok (.ireturn, 1) := by decide +kernel
theorem dX1_isHost_0 : decode cX1_isHost 0 = .ok (.iload_n 0, 1) := by decide +kernel
theorem dX1_isHost_1 : decode cX1_isHost 1 = .ok (.ifCond .lt 12, 3) := by decide +kernel
theorem dX1_isHost_4 : decode cX1_isHost 4 = .ok (.iload_n 0, 1) := by decide +kernel
theorem dX1_isHost_5 : decode cX1_isHost 5 = .ok (.iconst 4, 1) := by decide +kernel
theorem dX1_isHost_6 : decode cX1_isHost 6 = .ok (.if_icmp .ge 7, 3) := by decide +kernel
theorem dX1_isHost_9 : decode cX1_isHost 9 = .ok (.iconst 1, 1) := by decide +kernel
theorem dX1_isHost_10 : decode cX1_isHost 10 = .ok (.goto 4, 3) := by decide +kernel
theorem dX1_isHost_13 : decode cX1_isHost 13 = .ok (.iconst 0, 1) := by decide +kernel
theorem dX1_isHost_14 : decode cX1_isHost 14 = .ok (.ireturn, 1) := by decide +kernel
theorem dX1_isObject_0 : decode cX1_isObject 0 = .ok (.iload_n 1, 1) := by decide +kernel
theorem dX1_isObject_1 : decode cX1_isObject 1 = .ok (.ifCond .lt 15, 3) := by decide +kernel
theorem dX1_isObject_4 : decode cX1_isObject 4 = .ok (.iload_n 1, 1) := by decide +kernel
theorem dX1_isObject_5 : decode cX1_isObject 5 = .ok (.aload_n 0, 1) := by decide +kernel
theorem dX1_isObject_6 : decode cX1_isObject 6 = .ok (.getfield 35, 3) := by decide +kernel
theorem dX1_isObject_9 : decode cX1_isObject 9 = .ok (.if_icmp .ge 7, 3) := by decide +kernel
theorem dX1_isObject_12 : decode cX1_isObject 12 = .ok (.iconst 1, 1) := by decide +kernel
theorem dX1_isObject_13 : decode cX1_isObject 13 = .ok (.goto 4, 3) := by decide +kernel
theorem dX1_isObject_16 : decode cX1_isObject 16 = .ok (.iconst 0, 1) := by decide +kernel
theorem dX1_isObject_17 : decode cX1_isObject 17 = .ok (.ireturn, 1) := by decide +kernel
set_option maxRecDepth 20000 in
theorem ggX1_isDead_X1_isIn : GoodIn wsX1_isDead wsX1_isIn := goodIn_r _ [5, 6, 7, 4, 8] (by decide +kernel) (by decide +kernel)
set_option maxRecDepth 20000 in
theorem gX1_isDead_X1_isIn : GoodIn wsX1_isDead (va_wsS RX1 68 yX1_isIn wsX1_isIn) := goodIn_app (goodIn_of _ (by decide +kernel)) ggX1_isDead_X1_isIn
theorem dX1_isDead_0 : decode cX1_isDead 0 = .ok (.aload_n 0, 1) := by decide +kernel
theorem dX1_isDead_1 : decode cX1_isDead 1 = .ok (.getfield 45, 3) := by decide +kernel
theorem dX1_isDead_4 : decode cX1_isDead 4 = .ok (.iload_n 1, 1) := by decide +kernel
theorem dX1_isDead_5 : decode cX1_isDead 5 = .ok (.invokestatic 68, 3) := by decide +kernel
theorem dX1_isDead_8 : decode cX1_isDead 8 = .ok (.ireturn, 1) := by decide +kernel
set_option maxRecDepth 20000 in
theorem ggX1_isLive_X1_isIn : GoodIn wsX1_isLive wsX1_isIn := goodIn_r _ [5, 6, 7, 4, 8] (by decide +kernel) (by decide +kernel)
set_option maxRecDepth 20000 in
theorem gX1_isLive_X1_isIn : GoodIn wsX1_isLive (va_wsS RX1 68 yX1_isIn wsX1_isIn) := goodIn_app (goodIn_of _ (by decide +kernel)) ggX1_isLive_X1_isIn
theorem dX1_isLive_0 : decode cX1_isLive 0 = .ok (.aload_n 0, 1) := by decide +kernel
theorem dX1_isLive_1 : decode cX1_isLive 1 = .ok (.getfield 39, 3) := by decide +kernel
theorem dX1_isLive_4 : decode cX1_isLive 4 = .ok (.iload_n 1, 1) := by decide +kernel
theorem dX1_isLive_5 : decode cX1_isLive 5 = .ok (.invokestatic 68, 3) := by decide +kernel
theorem dX1_isLive_8 : decode cX1_isLive 8 = .ok (.ireturn, 1) := by decide +kernel
set_option maxRecDepth 20000 in
theorem ggX1_livesOn_X1_isLive : GoodIn wsX1_livesOn wsX1_isLive := goodIn_r _ [6, 7, 8, 9, 5, 10, 11, 12, 13, 14, 15, 16, 17, 18, 19, 20, 21, 22, 23] (by decide +kernel) (by decide +kernel)
set_option maxRecDepth 20000 in
theorem gX1_livesOn_X1_isLive : GoodIn wsX1_livesOn (wsV RX1 65 RX1 yX1_isLive wsX1_isLive) := goodIn_app (goodIn_of _ (by decide +kernel)) ggX1_livesOn_X1_isLive
theorem dX1_livesOn_0 : decode cX1_livesOn 0 = .ok (.aload_n 0, 1) := by decide +kernel
theorem dX1_livesOn_1 : decode cX1_livesOn 1 = .ok (.iload_n 1, 1) := by decide +kernel
theorem dX1_livesOn_2 : decode cX1_livesOn 2 = .ok (.invokevirtual 65, 3) := by decide +kernel
theorem dX1_livesOn_5 : decode cX1_livesOn 5 = .ok (.ifCond .eq 17, 3) := by decide +kernel
theorem dX1_livesOn_8 : decode cX1_livesOn 8 = .ok (.aload_n 0, 1) := by decide +kernel
theorem dX1_livesOn_9 : decode cX1_livesOn 9 = .ok (.getfield 9, 3) := by decide +kernel
theorem dX1_livesOn_12 : decode cX1_livesOn 12 = .ok (.iload_n 1, 1) := by decide +kernel
theorem dX1_livesOn_13 : decode cX1_livesOn 13 = .ok (.iaload, 1) := by decide +kernel
theorem dX1_livesOn_14 : decode cX1_livesOn 14 = .ok (.iload_n 2, 1) := by decide +kernel
theorem dX1_livesOn_15 : decode cX1_livesOn 15 = .ok (.if_icmp .ne 7, 3) := by decide +kernel
theorem dX1_livesOn_18 : decode cX1_livesOn 18 = .ok (.iconst 1, 1) := by decide +kernel
theorem dX1_livesOn_19 : decode cX1_livesOn 19 = .ok (.goto 4, 3) := by decide +kernel
theorem dX1_livesOn_22 : decode cX1_livesOn 22 = .ok (.iconst 0, 1) := by decide +kernel
theorem dX1_livesOn_23 : decode cX1_livesOn 23 = .ok (.ireturn, 1) := by decide +kernel
set_option maxRecDepth 20000 in
theorem ggX1_livingOn_X1_livesOn : GoodIn wsX1_livingOn wsX1_livesOn := goodIn_r _ [6, 7, 8, 9, 10, 5, 11, 12, 13, 14, 15, 16, 17, 18, 19, 20, 21, 22, 23, 24, 25, 26, 27, 28] (by decide +kernel) (by decide +kernel)
set_option maxRecDepth 20000 in
theorem gX1_livingOn_X1_livesOn : GoodIn wsX1_livingOn (wsV RX1 136 RX1 yX1_livesOn wsX1_livesOn) := goodIn_app (goodIn_of _ (by decide +kernel)) ggX1_livingOn_X1_livesOn
set_option maxRecDepth 20000 in
theorem ggX1_livingOn_X1_bit : GoodIn wsX1_livingOn wsX1_bit := goodIn_r _ [18] (by decide +kernel) (by decide +kernel)
set_option maxRecDepth 20000 in
theorem gX1_livingOn_X1_bit : GoodIn wsX1_livingOn (va_wsS RX1 58 yX1_bit wsX1_bit) := goodIn_app (goodIn_of _ (by decide +kernel)) ggX1_livingOn_X1_bit
theorem dX1_livingOn_0 : decode cX1_livingOn 0 = .ok (.iconst 0, 1) := by decide +kernel
theorem dX1_livingOn_1 : decode cX1_livingOn 1 = .ok (.istore_n 2, 1) := by decide +kernel
theorem dX1_livingOn_2 : decode cX1_livingOn 2 = .ok (.iconst 0, 1) := by decide +kernel
theorem dX1_livingOn_3 : decode cX1_livingOn 3 = .ok (.istore_n 3, 1) := by decide +kernel
theorem dX1_livingOn_4 : decode cX1_livingOn 4 = .ok (.iload_n 3, 1) := by decide +kernel
theorem dX1_livingOn_5 : decode cX1_livingOn 5 = .ok (.aload_n 0, 1) := by decide +kernel
theorem dX1_livingOn_6 : decode cX1_livingOn 6 = .ok (.getfield 35, 3) := by decide +kernel
theorem dX1_livingOn_9 : decode cX1_livingOn 9 = .ok (.if_icmp .ge 25, 3) := by decide +kernel
theorem dX1_livingOn_12 : decode cX1_livingOn 12 = .ok (.aload_n 0, 1) := by decide +kernel
theorem dX1_livingOn_13 : decode cX1_livingOn 13 = .ok (.iload_n 3, 1) := by decide +kernel
theorem dX1_livingOn_14 : decode cX1_livingOn 14 = .ok (.iload_n 1, 1) := by decide +kernel
theorem dX1_livingOn_15 : decode cX1_livingOn 15 = .ok (.invokevirtual 136, 3) := by decide +kernel
theorem dX1_livingOn_18 : decode cX1_livingOn 18 = .ok (.ifCond .eq 10, 3) := by decide +kernel
theorem dX1_livingOn_21 : decode cX1_livingOn 21 = .ok (.iload_n 2, 1) := by decide +kernel
theorem dX1_livingOn_22 : decode cX1_livingOn 22 = .ok (.iload_n 3, 1) := by decide +kernel
theorem dX1_livingOn_23 : decode cX1_livingOn 23 = .ok (.invokestatic 58, 3) := by decide +kernel
theorem dX1_livingOn_26 : decode cX1_livingOn 26 = .ok (.ior, 1) := by decide +kernel
theorem dX1_livingOn_27 : decode cX1_livingOn 27 = .ok (.istore_n 2, 1) := by decide +kernel
theorem dX1_livingOn_28 : decode cX1_livingOn 28 = .ok (.iinc 3 1, 3) := by decide +kernel
theorem dX1_livingOn_31 : decode cX1_livingOn 31 = .ok (.goto (-27), 3) := by decide +kernel
theorem dX1_livingOn_34 : decode cX1_livingOn 34 = .ok (.iload_n 2, 1) := by decide +kernel
theorem dX1_livingOn_35 : decode cX1_livingOn 35 = .ok (.ireturn, 1) := by decide +kernel
theorem dX1_onOneHost_0 : decode cX1_onOneHost 0 = .ok (.aload_n 0, 1) := by decide +kernel
theorem dX1_onOneHost_1 : decode cX1_onOneHost 1 = .ok (.getfield 9, 3) := by decide +kernel
theorem dX1_onOneHost_4 : decode cX1_onOneHost 4 = .ok (.iload_n 1, 1) := by decide +kernel
theorem dX1_onOneHost_5 : decode cX1_onOneHost 5 = .ok (.iaload, 1) := by decide +kernel
theorem dX1_onOneHost_6 : decode cX1_onOneHost 6 = .ok (.aload_n 0, 1) := by decide +kernel
theorem dX1_onOneHost_7 : decode cX1_onOneHost 7 = .ok (.getfield 9, 3) := by decide +kernel
theorem dX1_onOneHost_10 : decode cX1_onOneHost 10 = .ok (.iload_n 2, 1) := by decide +kernel
theorem dX1_onOneHost_11 : decode cX1_onOneHost 11 = .ok (.iaload, 1) := by decide +kernel
theorem dX1_onOneHost_12 : decode cX1_onOneHost 12 = .ok (.if_icmp .ne 7, 3) := by decide +kernel
theorem dX1_onOneHost_15 : decode cX1_onOneHost 15 = .ok (.iconst 1, 1) := by decide +kernel
theorem dX1_onOneHost_16 : decode cX1_onOneHost 16 = .ok (.goto 4, 3) := by decide +kernel
theorem dX1_onOneHost_19 : decode cX1_onOneHost 19 = .ok (.iconst 0, 1) := by decide +kernel
theorem dX1_onOneHost_20 : decode cX1_onOneHost 20 = .ok (.ireturn, 1) := by decide +kernel
set_option maxRecDepth 20000 in
theorem ggX1_hasLink_X1_at : GoodIn wsX1_hasLink wsX1_at := goodIn_r _ [5] (by decide +kernel) (by decide +kernel)
set_option maxRecDepth 20000 in
theorem gX1_hasLink_X1_at : GoodIn wsX1_hasLink (va_wsS RX1 82 yX1_at wsX1_at) := goodIn_app (goodIn_of _ (by decide +kernel)) ggX1_hasLink_X1_at
theorem dX1_hasLink_0 : decode cX1_hasLink 0 = .ok (.aload_n 0, 1) := by decide +kernel
theorem dX1_hasLink_1 : decode cX1_hasLink 1 = .ok (.getfield 19, 3) := by decide +kernel
theorem dX1_hasLink_4 : decode cX1_hasLink 4 = .ok (.iload_n 1, 1) := by decide +kernel
theorem dX1_hasLink_5 : decode cX1_hasLink 5 = .ok (.iload_n 2, 1) := by decide +kernel
theorem dX1_hasLink_6 : decode cX1_hasLink 6 = .ok (.invokestatic 82, 3) := by decide +kernel
theorem dX1_hasLink_9 : decode cX1_hasLink 9 = .ok (.iaload, 1) := by decide +kernel
theorem dX1_hasLink_10 : decode cX1_hasLink 10 = .ok (.bipush (-9), 2) := by decide +kernel
theorem dX1_hasLink_12 : decode cX1_hasLink 12 = .ok (.if_icmp .eq 7, 3) := by decide +kernel
theorem dX1_hasLink_15 : decode cX1_hasLink 15 = .ok (.iconst 1, 1) := by decide +kernel
theorem dX1_hasLink_16 : decode cX1_hasLink 16 = .ok (.goto 4, 3) := by decide +kernel
theorem dX1_hasLink_19 : decode cX1_hasLink 19 = .ok (.iconst 0, 1) := by decide +kernel
theorem dX1_hasLink_20 : decode cX1_hasLink 20 = .ok (.ireturn, 1) := by decide +kernel
set_option maxRecDepth 20000 in
theorem ggX1_addLink_X1_hasLink : GoodIn wsX1_addLink wsX1_hasLink := goodIn_r _ [7, 1, 8, 9, 6, 10, 11, 12, 13, 14, 15, 16, 17, 18, 19, 20] (by decide +kernel) (by decide +kernel)
set_option maxRecDepth 20000 in
theorem gX1_addLink_X1_hasLink : GoodIn wsX1_addLink (wsV RX1 75 RX1 yX1_hasLink wsX1_hasLink) := goodIn_app (goodIn_of _ (by decide +kernel)) ggX1_addLink_X1_hasLink
set_option maxRecDepth 20000 in
theorem ggX1_addLink_X1_at : GoodIn wsX1_addLink wsX1_at := goodIn_r _ [10] (by decide +kernel) (by decide +kernel)
set_option maxRecDepth 20000 in
theorem gX1_addLink_X1_at : GoodIn wsX1_addLink (va_wsS RX1 82 yX1_at wsX1_at) := goodIn_app (goodIn_of _ (by decide +kernel)) ggX1_addLink_X1_at
theorem dX1_addLink_0 : decode cX1_addLink 0 = .ok (.aload_n 0, 1) := by decide +kernel
theorem dX1_addLink_1 : decode cX1_addLink 1 = .ok (.iload_n 1, 1) := by decide +kernel
theorem dX1_addLink_2 : decode cX1_addLink 2 = .ok (.iload_n 2, 1) := by decide +kernel
theorem dX1_addLink_3 : decode cX1_addLink 3 = .ok (.invokevirtual 75, 3) := by decide +kernel
theorem dX1_addLink_6 : decode cX1_addLink 6 = .ok (.ifCond .eq 20, 3) := by decide +kernel
theorem dX1_addLink_9 : decode cX1_addLink 9 = .ok (.aload_n 0, 1) := by decide +kernel
theorem dX1_addLink_10 : decode cX1_addLink 10 = .ok (.getfield 19, 3) := by decide +kernel
theorem dX1_addLink_13 : decode cX1_addLink 13 = .ok (.iload_n 1, 1) := by decide +kernel
theorem dX1_addLink_14 : decode cX1_addLink 14 = .ok (.iload_n 2, 1) := by decide +kernel
theorem dX1_addLink_15 : decode cX1_addLink 15 = .ok (.invokestatic 82, 3) := by decide +kernel
theorem dX1_addLink_18 : decode cX1_addLink 18 = .ok (.dup2, 1) := by decide +kernel
theorem dX1_addLink_19 : decode cX1_addLink 19 = .ok (.iaload, 1) := by decide +kernel
theorem dX1_addLink_20 : decode cX1_addLink 20 = .ok (.iload_n 3, 1) := by decide +kernel
theorem dX1_addLink_21 : decode cX1_addLink 21 = .ok (.iadd, 1) := by decide +kernel
theorem dX1_addLink_22 : decode cX1_addLink 22 = .ok (.iastore, 1) := by decide +kernel
theorem dX1_addLink_23 : decode cX1_addLink 23 = .ok (.goto 21, 3) := by decide +kernel
theorem dX1_addLink_26 : decode cX1_addLink 26 = .ok (.aload_n 0, 1) := by decide +kernel
theorem dX1_addLink_27 : decode cX1_addLink 27 = .ok (.getfield 19, 3) := by decide +kernel
theorem dX1_addLink_30 : decode cX1_addLink 30 = .ok (.iload_n 1, 1) := by decide +kernel
theorem dX1_addLink_31 : decode cX1_addLink 31 = .ok (.iload_n 2, 1) := by decide +kernel
theorem dX1_addLink_32 : decode cX1_addLink 32 = .ok (.invokestatic 82, 3) := by decide +kernel
theorem dX1_addLink_35 : decode cX1_addLink 35 = .ok (.iload_n 3, 1) := by decide +kernel
theorem dX1_addLink_36 : decode cX1_addLink 36 = .ok (.iastore, 1) := by decide +kernel
theorem dX1_addLink_37 : decode cX1_addLink 37 = .ok (.aload_n 0, 1) := by decide +kernel
theorem dX1_addLink_38 : decode cX1_addLink 38 = .ok (.getfield 16, 3) := by decide +kernel
theorem dX1_addLink_41 : decode cX1_addLink 41 = .ok (.iload_n 2, 1) := by decide +kernel
theorem dX1_addLink_42 : decode cX1_addLink 42 = .ok (.iconst 0, 1) := by decide +kernel
theorem dX1_addLink_43 : decode cX1_addLink 43 = .ok (.iastore, 1) := by decide +kernel
theorem dX1_addLink_44 : decode cX1_addLink 44 = .ok (.return_, 1) := by decide +kernel
set_option maxRecDepth 20000 in
theorem ggX1_linkedFrom_X1_hasLink : GoodIn wsX1_linkedFrom wsX1_hasLink := goodIn_r _ [6, 7, 8, 9, 5, 10, 14, 15, 16, 17, 18, 19, 20, 21, 22, 23] (by decide +kernel) (by decide +kernel)
set_option maxRecDepth 20000 in
theorem gX1_linkedFrom_X1_hasLink : GoodIn wsX1_linkedFrom (wsV RX1 75 RX1 yX1_hasLink wsX1_hasLink) := goodIn_app (goodIn_of _ (by decide +kernel)) ggX1_linkedFrom_X1_hasLink
set_option maxRecDepth 20000 in
theorem ggX1_linkedFrom_X1_bit : GoodIn wsX1_linkedFrom wsX1_bit := goodIn_r _ [13] (by decide +kernel) (by decide +kernel)
set_option maxRecDepth 20000 in
theorem gX1_linkedFrom_X1_bit : GoodIn wsX1_linkedFrom (va_wsS RX1 58 yX1_bit wsX1_bit) := goodIn_app (goodIn_of _ (by decide +kernel)) ggX1_linkedFrom_X1_bit
theorem dX1_linkedFrom_0 : decode cX1_linkedFrom 0 = .ok (.iconst 0, 1) := by decide +kernel
theorem dX1_linkedFrom_1 : decode cX1_linkedFrom 1 = .ok (.istore_n 2, 1) := by decide +kernel
theorem dX1_linkedFrom_2 : decode cX1_linkedFrom 2 = .ok (.iconst 0, 1) := by decide +kernel
theorem dX1_linkedFrom_3 : decode cX1_linkedFrom 3 = .ok (.istore_n 3, 1) := by decide +kernel
theorem dX1_linkedFrom_4 : decode cX1_linkedFrom 4 = .ok (.iload_n 3, 1) := by decide +kernel
theorem dX1_linkedFrom_5 : decode cX1_linkedFrom 5 = .ok (.aload_n 0, 1) := by decide +kernel
theorem dX1_linkedFrom_6 : decode cX1_linkedFrom 6 = .ok (.getfield 35, 3) := by decide +kernel
theorem dX1_linkedFrom_9 : decode cX1_linkedFrom 9 = .ok (.if_icmp .ge 25, 3) := by decide +kernel
theorem dX1_linkedFrom_12 : decode cX1_linkedFrom 12 = .ok (.aload_n 0, 1) := by decide +kernel
theorem dX1_linkedFrom_13 : decode cX1_linkedFrom 13 = .ok (.iload_n 1, 1) := by decide +kernel
theorem dX1_linkedFrom_14 : decode cX1_linkedFrom 14 = .ok (.iload_n 3, 1) := by decide +kernel
theorem dX1_linkedFrom_15 : decode cX1_linkedFrom 15 = .ok (.invokevirtual 75, 3) := by decide +kernel
theorem dX1_linkedFrom_18 : decode cX1_linkedFrom 18 = .ok (.ifCond .eq 10, 3) := by decide +kernel
theorem dX1_linkedFrom_21 : decode cX1_linkedFrom 21 = .ok (.iload_n 2, 1) := by decide +kernel
theorem dX1_linkedFrom_22 : decode cX1_linkedFrom 22 = .ok (.iload_n 3, 1) := by decide +kernel
theorem dX1_linkedFrom_23 : decode cX1_linkedFrom 23 = .ok (.invokestatic 58, 3) := by decide +kernel
theorem dX1_linkedFrom_26 : decode cX1_linkedFrom 26 = .ok (.ior, 1) := by decide +kernel
theorem dX1_linkedFrom_27 : decode cX1_linkedFrom 27 = .ok (.istore_n 2, 1) := by decide +kernel
theorem dX1_linkedFrom_28 : decode cX1_linkedFrom 28 = .ok (.iinc 3 1, 3) := by decide +kernel
theorem dX1_linkedFrom_31 : decode cX1_linkedFrom 31 = .ok (.goto (-27), 3) := by decide +kernel
theorem dX1_linkedFrom_34 : decode cX1_linkedFrom 34 = .ok (.iload_n 2, 1) := by decide +kernel
theorem dX1_linkedFrom_35 : decode cX1_linkedFrom 35 = .ok (.ireturn, 1) := by decide +kernel
set_option maxRecDepth 20000 in
theorem ggX1_linkedTo_X1_hasLink : GoodIn wsX1_linkedTo wsX1_hasLink := goodIn_r _ [6, 7, 8, 9, 5, 10, 14, 15, 16, 17, 18, 19, 20, 21, 22, 23] (by decide +kernel) (by decide +kernel)
set_option maxRecDepth 20000 in
theorem gX1_linkedTo_X1_hasLink : GoodIn wsX1_linkedTo (wsV RX1 75 RX1 yX1_hasLink wsX1_hasLink) := goodIn_app (goodIn_of _ (by decide +kernel)) ggX1_linkedTo_X1_hasLink
set_option maxRecDepth 20000 in
theorem ggX1_linkedTo_X1_bit : GoodIn wsX1_linkedTo wsX1_bit := goodIn_r _ [13] (by decide +kernel) (by decide +kernel)
set_option maxRecDepth 20000 in
theorem gX1_linkedTo_X1_bit : GoodIn wsX1_linkedTo (va_wsS RX1 58 yX1_bit wsX1_bit) := goodIn_app (goodIn_of _ (by decide +kernel)) ggX1_linkedTo_X1_bit
theorem dX1_linkedTo_0 : decode cX1_linkedTo 0 = .ok (.iconst 0, 1) := by decide +kernel
theorem dX1_linkedTo_1 : decode cX1_linkedTo 1 = .ok (.istore_n 2, 1) := by decide +kernel
theorem dX1_linkedTo_2 : decode cX1_linkedTo 2 = .ok (.iconst 0, 1) := by decide +kernel
theorem dX1_linkedTo_3 : decode cX1_linkedTo 3 = .ok (.istore_n 3, 1) := by decide +kernel
theorem dX1_linkedTo_4 : decode cX1_linkedTo 4 = .ok (.iload_n 3, 1) := by decide +kernel
theorem dX1_linkedTo_5 : decode cX1_linkedTo 5 = .ok (.aload_n 0, 1) := by decide +kernel
theorem dX1_linkedTo_6 : decode cX1_linkedTo 6 = .ok (.getfield 35, 3) := by decide +kernel
theorem dX1_linkedTo_9 : decode cX1_linkedTo 9 = .ok (.if_icmp .ge 25, 3) := by decide +kernel
theorem dX1_linkedTo_12 : decode cX1_linkedTo 12 = .ok (.aload_n 0, 1) := by decide +kernel
theorem dX1_linkedTo_13 : decode cX1_linkedTo 13 = .ok (.iload_n 3, 1) := by decide +kernel
theorem dX1_linkedTo_14 : decode cX1_linkedTo 14 = .ok (.iload_n 1, 1) := by decide +kernel
theorem dX1_linkedTo_15 : decode cX1_linkedTo 15 = .ok (.invokevirtual 75, 3) := by decide +kernel
theorem dX1_linkedTo_18 : decode cX1_linkedTo 18 = .ok (.ifCond .eq 10, 3) := by decide +kernel
theorem dX1_linkedTo_21 : decode cX1_linkedTo 21 = .ok (.iload_n 2, 1) := by decide +kernel
theorem dX1_linkedTo_22 : decode cX1_linkedTo 22 = .ok (.iload_n 3, 1) := by decide +kernel
theorem dX1_linkedTo_23 : decode cX1_linkedTo 23 = .ok (.invokestatic 58, 3) := by decide +kernel
theorem dX1_linkedTo_26 : decode cX1_linkedTo 26 = .ok (.ior, 1) := by decide +kernel
theorem dX1_linkedTo_27 : decode cX1_linkedTo 27 = .ok (.istore_n 2, 1) := by decide +kernel
theorem dX1_linkedTo_28 : decode cX1_linkedTo 28 = .ok (.iinc 3 1, 3) := by decide +kernel
theorem dX1_linkedTo_31 : decode cX1_linkedTo 31 = .ok (.goto (-27), 3) := by decide +kernel
theorem dX1_linkedTo_34 : decode cX1_linkedTo 34 = .ok (.iload_n 2, 1) := by decide +kernel
theorem dX1_linkedTo_35 : decode cX1_linkedTo 35 = .ok (.ireturn, 1) := by decide +kernel
theorem dX1_nearLinks_0 : decode cX1_nearLinks 0 = .ok (.iconst 0, 1) := by decide +kernel
theorem dX1_nearLinks_1 : decode cX1_nearLinks 1 = .ok (.istore_n 1, 1) := by decide +kernel
theorem dX1_nearLinks_2 : decode cX1_nearLinks 2 = .ok (.iconst 0, 1) := by decide +kernel
theorem dX1_nearLinks_3 : decode cX1_nearLinks 3 = .ok (.istore_n 2, 1) := by decide +kernel
theorem dX1_nearLinks_4 : decode cX1_nearLinks 4 = .ok (.iload_n 2, 1) := by decide +kernel
theorem dX1_nearLinks_5 : decode cX1_nearLinks 5 = .ok (.aload_n 0, 1) := by decide +kernel
theorem dX1_nearLinks_6 : decode cX1_nearLinks 6 = .ok (.getfield 19, 3) := by decide +kernel
theorem dX1_nearLinks_9 : decode cX1_nearLinks 9 = .ok (.arraylength, 1) := by decide +kernel
theorem dX1_nearLinks_10 : decode cX1_nearLinks 10 = .ok (.if_icmp .ge 21, 3) := by decide +kernel
theorem dX1_nearLinks_13 : decode cX1_nearLinks 13 = .ok (.aload_n 0, 1) := by decide +kernel
theorem dX1_nearLinks_14 : decode cX1_nearLinks 14 = .ok (.getfield 19, 3) := by decide +kernel
theorem dX1_nearLinks_17 : decode cX1_nearLinks 17 = .ok (.iload_n 2, 1) := by decide +kernel
theorem dX1_nearLinks_18 : decode cX1_nearLinks 18 = .ok (.iaload, 1) := by decide +kernel
theorem dX1_nearLinks_19 : decode cX1_nearLinks 19 = .ok (.ifCond .ne 6, 3) := by decide +kernel
theorem dX1_nearLinks_22 : decode cX1_nearLinks 22 = .ok (.iinc 1 1, 3) := by decide +kernel
theorem dX1_nearLinks_25 : decode cX1_nearLinks 25 = .ok (.iinc 2 1, 3) := by decide +kernel
theorem dX1_nearLinks_28 : decode cX1_nearLinks 28 = .ok (.goto (-24), 3) := by decide +kernel
theorem dX1_nearLinks_31 : decode cX1_nearLinks 31 = .ok (.iload_n 1, 1) := by decide +kernel
theorem dX1_nearLinks_32 : decode cX1_nearLinks 32 = .ok (.ireturn, 1) := by decide +kernel
theorem dX1_farLinks_0 : decode cX1_farLinks 0 = .ok (.iconst 0, 1) := by decide +kernel
theorem dX1_farLinks_1 : decode cX1_farLinks 1 = .ok (.istore_n 1, 1) := by decide +kernel
theorem dX1_farLinks_2 : decode cX1_farLinks 2 = .ok (.iconst 0, 1) := by decide +kernel
theorem dX1_farLinks_3 : decode cX1_farLinks 3 = .ok (.istore_n 2, 1) := by decide +kernel
theorem dX1_farLinks_4 : decode cX1_farLinks 4 = .ok (.iload_n 2, 1) := by decide +kernel
theorem dX1_farLinks_5 : decode cX1_farLinks 5 = .ok (.aload_n 0, 1) := by decide +kernel
theorem dX1_farLinks_6 : decode cX1_farLinks 6 = .ok (.getfield 19, 3) := by decide +kernel
theorem dX1_farLinks_9 : decode cX1_farLinks 9 = .ok (.arraylength, 1) := by decide +kernel
theorem dX1_farLinks_10 : decode cX1_farLinks 10 = .ok (.if_icmp .ge 21, 3) := by decide +kernel
theorem dX1_farLinks_13 : decode cX1_farLinks 13 = .ok (.aload_n 0, 1) := by decide +kernel
theorem dX1_farLinks_14 : decode cX1_farLinks 14 = .ok (.getfield 19, 3) := by decide +kernel
theorem dX1_farLinks_17 : decode cX1_farLinks 17 = .ok (.iload_n 2, 1) := by decide +kernel
theorem dX1_farLinks_18 : decode cX1_farLinks 18 = .ok (.iaload, 1) := by decide +kernel
theorem dX1_farLinks_19 : decode cX1_farLinks 19 = .ok (.ifCond .le 6, 3) := by decide +kernel
theorem dX1_farLinks_22 : decode cX1_farLinks 22 = .ok (.iinc 1 1, 3) := by decide +kernel
theorem dX1_farLinks_25 : decode cX1_farLinks 25 = .ok (.iinc 2 1, 3) := by decide +kernel
theorem dX1_farLinks_28 : decode cX1_farLinks 28 = .ok (.goto (-24), 3) := by decide +kernel
theorem dX1_farLinks_31 : decode cX1_farLinks 31 = .ok (.iload_n 1, 1) := by decide +kernel
theorem dX1_farLinks_32 : decode cX1_farLinks 32 = .ok (.ireturn, 1) := by decide +kernel
set_option maxRecDepth 20000 in
theorem ggX1_mayGive_X1_isLive : GoodIn wsX1_mayGive wsX1_isLive := goodIn_r _ [5, 6, 7, 8, 4, 9, 10, 11, 12, 21, 22, 23, 24, 25, 26, 27, 28, 29, 30] (by decide +kernel) (by decide +kernel)
set_option maxRecDepth 20000 in
theorem gX1_mayGive_X1_isLive : GoodIn wsX1_mayGive (wsV RX1 65 RX1 yX1_isLive wsX1_isLive) := goodIn_app (goodIn_of _ (by decide +kernel)) ggX1_mayGive_X1_isLive
set_option maxRecDepth 20000 in
theorem ggX1_mayGive_X1_hasLink : GoodIn wsX1_mayGive wsX1_hasLink := goodIn_r _ [16, 17, 18, 19, 4, 20, 21, 22, 23, 24, 25, 26, 27, 28, 29, 30] (by decide +kernel) (by decide +kernel)
set_option maxRecDepth 20000 in
theorem gX1_mayGive_X1_hasLink : GoodIn wsX1_mayGive (wsV RX1 75 RX1 yX1_hasLink wsX1_hasLink) := goodIn_app (goodIn_of _ (by decide +kernel)) ggX1_mayGive_X1_hasLink
theorem dX1_mayGive_0 : decode cX1_mayGive 0 = .ok (.aload_n 0, 1) := by decide +kernel
theorem dX1_mayGive_1 : decode cX1_mayGive 1 = .ok (.iload_n 1, 1) := by decide +kernel
theorem dX1_mayGive_2 : decode cX1_mayGive 2 = .ok (.invokevirtual 65, 3) := by decide +kernel
theorem dX1_mayGive_5 : decode cX1_mayGive 5 = .ok (.ifCond .eq 29, 3) := by decide +kernel
theorem dX1_mayGive_8 : decode cX1_mayGive 8 = .ok (.aload_n 0, 1) := by decide +kernel
theorem dX1_mayGive_9 : decode cX1_mayGive 9 = .ok (.iload_n 2, 1) := by decide +kernel
theorem dX1_mayGive_10 : decode cX1_mayGive 10 = .ok (.invokevirtual 65, 3) := by decide +kernel
theorem dX1_mayGive_13 : decode cX1_mayGive 13 = .ok (.ifCond .eq 21, 3) := by decide +kernel
theorem dX1_mayGive_16 : decode cX1_mayGive 16 = .ok (.aload_n 0, 1) := by decide +kernel
theorem dX1_mayGive_17 : decode cX1_mayGive 17 = .ok (.iload_n 3, 1) := by decide +kernel
theorem dX1_mayGive_18 : decode cX1_mayGive 18 = .ok (.invokevirtual 65, 3) := by decide +kernel
theorem dX1_mayGive_21 : decode cX1_mayGive 21 = .ok (.ifCond .eq 13, 3) := by decide +kernel
theorem dX1_mayGive_24 : decode cX1_mayGive 24 = .ok (.iload_n 2, 1) := by decide +kernel
theorem dX1_mayGive_25 : decode cX1_mayGive 25 = .ok (.iload_n 1, 1) := by decide +kernel
theorem dX1_mayGive_26 : decode cX1_mayGive 26 = .ok (.if_icmp .eq 8, 3) := by decide +kernel
theorem dX1_mayGive_29 : decode cX1_mayGive 29 = .ok (.iload_n 2, 1) := by decide +kernel
theorem dX1_mayGive_30 : decode cX1_mayGive 30 = .ok (.iload_n 3, 1) := by decide +kernel
theorem dX1_mayGive_31 : decode cX1_mayGive 31 = .ok (.if_icmp .ne 5, 3) := by decide +kernel
theorem dX1_mayGive_34 : decode cX1_mayGive 34 = .ok (.iconst 0, 1) := by decide +kernel
theorem dX1_mayGive_35 : decode cX1_mayGive 35 = .ok (.ireturn, 1) := by decide +kernel
theorem dX1_mayGive_36 : decode cX1_mayGive 36 = .ok (.aload_n 0, 1) := by decide +kernel
theorem dX1_mayGive_37 : decode cX1_mayGive 37 = .ok (.iload_n 1, 1) := by decide +kernel
theorem dX1_mayGive_38 : decode cX1_mayGive 38 = .ok (.iload_n 2, 1) := by decide +kernel
theorem dX1_mayGive_39 : decode cX1_mayGive 39 = .ok (.invokevirtual 75, 3) := by decide +kernel
theorem dX1_mayGive_42 : decode cX1_mayGive 42 = .ok (.ifCond .eq 21, 3) := by decide +kernel
theorem dX1_mayGive_45 : decode cX1_mayGive 45 = .ok (.iload_n 1, 1) := by decide +kernel
theorem dX1_mayGive_46 : decode cX1_mayGive 46 = .ok (.iload_n 3, 1) := by decide +kernel
theorem dX1_mayGive_47 : decode cX1_mayGive 47 = .ok (.if_icmp .eq 12, 3) := by decide +kernel
theorem dX1_mayGive_50 : decode cX1_mayGive 50 = .ok (.aload_n 0, 1) := by decide +kernel
theorem dX1_mayGive_51 : decode cX1_mayGive 51 = .ok (.iload_n 1, 1) := by decide +kernel
theorem dX1_mayGive_52 : decode cX1_mayGive 52 = .ok (.iload_n 3, 1) := by decide +kernel
theorem dX1_mayGive_53 : decode cX1_mayGive 53 = .ok (.invokevirtual 75, 3) := by decide +kernel
theorem dX1_mayGive_56 : decode cX1_mayGive 56 = .ok (.ifCond .eq 7, 3) := by decide +kernel
theorem dX1_mayGive_59 : decode cX1_mayGive 59 = .ok (.iconst 1, 1) := by decide +kernel
theorem dX1_mayGive_60 : decode cX1_mayGive 60 = .ok (.goto 4, 3) := by decide +kernel
theorem dX1_mayGive_63 : decode cX1_mayGive 63 = .ok (.iconst 0, 1) := by decide +kernel
theorem dX1_mayGive_64 : decode cX1_mayGive 64 = .ok (.ireturn, 1) := by decide +kernel
set_option maxRecDepth 20000 in
theorem ggX1_split_X1_at : GoodIn wsX1_split wsX1_at := goodIn_r _ [7] (by decide +kernel) (by decide +kernel)
set_option maxRecDepth 20000 in
theorem gX1_split_X1_at : GoodIn wsX1_split (va_wsS RX1 82 yX1_at wsX1_at) := goodIn_app (goodIn_of _ (by decide +kernel)) ggX1_split_X1_at
theorem dX1_split_0 : decode cX1_split 0 = .ok (.iload_n 1, 1) := by decide +kernel
theorem dX1_split_1 : decode cX1_split 1 = .ok (.iload_n 2, 1) := by decide +kernel
theorem dX1_split_2 : decode cX1_split 2 = .ok (.invokestatic 82, 3) := by decide +kernel
theorem dX1_split_5 : decode cX1_split 5 = .ok (.istore_n 3, 1) := by decide +kernel
theorem dX1_split_6 : decode cX1_split 6 = .ok (.aload_n 0, 1) := by decide +kernel
theorem dX1_split_7 : decode cX1_split 7 = .ok (.getfield 19, 3) := by decide +kernel
theorem dX1_split_10 : decode cX1_split 10 = .ok (.iload_n 3, 1) := by decide +kernel
theorem dX1_split_11 : decode cX1_split 11 = .ok (.iaload, 1) := by decide +kernel
theorem dX1_split_12 : decode cX1_split 12 = .ok (.iconst 1, 1) := by decide +kernel
theorem dX1_split_13 : decode cX1_split 13 = .ok (.if_icmp .ne 35, 3) := by decide +kernel
theorem dX1_split_16 : decode cX1_split 16 = .ok (.aload_n 0, 1) := by decide +kernel
theorem dX1_split_17 : decode cX1_split 17 = .ok (.getfield 13, 3) := by decide +kernel
theorem dX1_split_20 : decode cX1_split 20 = .ok (.iload_n 2, 1) := by decide +kernel
theorem dX1_split_21 : decode cX1_split 21 = .ok (.dup2, 1) := by decide +kernel
theorem dX1_split_22 : decode cX1_split 22 = .ok (.iaload, 1) := by decide +kernel
theorem dX1_split_23 : decode cX1_split 23 = .ok (.bipush 64, 2) := by decide +kernel
theorem dX1_split_25 : decode cX1_split 25 = .ok (.iadd, 1) := by decide +kernel
theorem dX1_split_26 : decode cX1_split 26 = .ok (.iastore, 1) := by decide +kernel
theorem dX1_split_27 : decode cX1_split 27 = .ok (.aload_n 0, 1) := by decide +kernel
theorem dX1_split_28 : decode cX1_split 28 = .ok (.getfield 19, 3) := by decide +kernel
theorem dX1_split_31 : decode cX1_split 31 = .ok (.iload_n 3, 1) := by decide +kernel
theorem dX1_split_32 : decode cX1_split 32 = .ok (.dup2, 1) := by decide +kernel
theorem dX1_split_33 : decode cX1_split 33 = .ok (.iaload, 1) := by decide +kernel
theorem dX1_split_34 : decode cX1_split 34 = .ok (.bipush 64, 2) := by decide +kernel
theorem dX1_split_36 : decode cX1_split 36 = .ok (.iadd, 1) := by decide +kernel
theorem dX1_split_37 : decode cX1_split 37 = .ok (.iastore, 1) := by decide +kernel
theorem dX1_split_38 : decode cX1_split 38 = .ok (.aload_n 0, 1) := by decide +kernel
theorem dX1_split_39 : decode cX1_split 39 = .ok (.dup, 1) := by decide +kernel
theorem dX1_split_40 : decode cX1_split 40 = .ok (.getfield 48, 3) := by decide +kernel
theorem dX1_split_43 : decode cX1_split 43 = .ok (.iconst 1, 1) := by decide +kernel
theorem dX1_split_44 : decode cX1_split 44 = .ok (.iadd, 1) := by decide +kernel
theorem dX1_split_45 : decode cX1_split 45 = .ok (.putfield 48, 3) := by decide +kernel
theorem dX1_split_48 : decode cX1_split 48 = .ok (.aload_n 0, 1) := by decide +kernel
theorem dX1_split_49 : decode cX1_split 49 = .ok (.getfield 19, 3) := by decide +kernel
theorem dX1_split_52 : decode cX1_split 52 = .ok (.iload_n 3, 1) := by decide +kernel
theorem dX1_split_53 : decode cX1_split 53 = .ok (.iaload, 1) := by decide +kernel
theorem dX1_split_54 : decode cX1_split 54 = .ok (.iconst 2, 1) := by decide +kernel
theorem dX1_split_55 : decode cX1_split 55 = .ok (.idiv, 1) := by decide +kernel
theorem dX1_split_56 : decode cX1_split 56 = .ok (.istore 4, 2) := by decide +kernel
theorem dX1_split_58 : decode cX1_split 58 = .ok (.aload_n 0, 1) := by decide +kernel
theorem dX1_split_59 : decode cX1_split 59 = .ok (.getfield 19, 3) := by decide +kernel
theorem dX1_split_62 : decode cX1_split 62 = .ok (.iload_n 3, 1) := by decide +kernel
theorem dX1_split_63 : decode cX1_split 63 = .ok (.dup2, 1) := by decide +kernel
theorem dX1_split_64 : decode cX1_split 64 = .ok (.iaload, 1) := by decide +kernel
theorem dX1_split_65 : decode cX1_split 65 = .ok (.iload 4, 2) := by decide +kernel
theorem dX1_split_67 : decode cX1_split 67 = .ok (.isub, 1) := by decide +kernel
theorem dX1_split_68 : decode cX1_split 68 = .ok (.iastore, 1) := by decide +kernel
theorem dX1_split_69 : decode cX1_split 69 = .ok (.iload 4, 2) := by decide +kernel
theorem dX1_split_71 : decode cX1_split 71 = .ok (.ireturn, 1) := by decide +kernel
theorem dX1_goesTo_0 : decode cX1_goesTo 0 = .ok (.aload_n 0, 1) := by decide +kernel
theorem dX1_goesTo_1 : decode cX1_goesTo 1 = .ok (.getfield 31, 3) := by decide +kernel
theorem dX1_goesTo_4 : decode cX1_goesTo 4 = .ok (.getfield 127, 3) := by decide +kernel
theorem dX1_goesTo_7 : decode cX1_goesTo 7 = .ok (.iload_n 1, 1) := by decide +kernel
theorem dX1_goesTo_8 : decode cX1_goesTo 8 = .ok (.iaload, 1) := by decide +kernel
theorem dX1_goesTo_9 : decode cX1_goesTo 9 = .ok (.istore_n 2, 1) := by decide +kernel
theorem dX1_goesTo_10 : decode cX1_goesTo 10 = .ok (.iload_n 2, 1) := by decide +kernel
theorem dX1_goesTo_11 : decode cX1_goesTo 11 = .ok (.bipush (-9), 2) := by decide +kernel
theorem dX1_goesTo_13 : decode cX1_goesTo 13 = .ok (.if_icmp .ne 20, 3) := by decide +kernel
theorem dX1_goesTo_16 : decode cX1_goesTo 16 = .ok (.aload_n 0, 1) := by decide +kernel
theorem dX1_goesTo_17 : decode cX1_goesTo 17 = .ok (.getfield 9, 3) := by decide +kernel
theorem dX1_goesTo_20 : decode cX1_goesTo 20 = .ok (.aload_n 0, 1) := by decide +kernel
theorem dX1_goesTo_21 : decode cX1_goesTo 21 = .ok (.getfield 31, 3) := by decide +kernel
theorem dX1_goesTo_24 : decode cX1_goesTo 24 = .ok (.getfield 124, 3) := by decide +kernel
theorem dX1_goesTo_27 : decode cX1_goesTo 27 = .ok (.iload_n 1, 1) := by decide +kernel
theorem dX1_goesTo_28 : decode cX1_goesTo 28 = .ok (.iaload, 1) := by decide +kernel
theorem dX1_goesTo_29 : decode cX1_goesTo 29 = .ok (.iaload, 1) := by decide +kernel
theorem dX1_goesTo_30 : decode cX1_goesTo 30 = .ok (.goto 9, 3) := by decide +kernel
theorem dX1_goesTo_33 : decode cX1_goesTo 33 = .ok (.aload_n 0, 1) := by decide +kernel
theorem dX1_goesTo_34 : decode cX1_goesTo 34 = .ok (.getfield 9, 3) := by decide +kernel
theorem dX1_goesTo_37 : decode cX1_goesTo 37 = .ok (.iload_n 2, 1) := by decide +kernel
theorem dX1_goesTo_38 : decode cX1_goesTo 38 = .ok (.iaload, 1) := by decide +kernel
theorem dX1_goesTo_39 : decode cX1_goesTo 39 = .ok (.ireturn, 1) := by decide +kernel
set_option maxRecDepth 20000 in
theorem ggX1_arrive_X0_kind : GoodIn wsX1_arrive wsX0_kind := goodIn_r _ [7, 8, 77, 78, 79, 80] (by decide +kernel) (by decide +kernel)
set_option maxRecDepth 20000 in
theorem gX1_arrive_X0_kind : GoodIn wsX1_arrive (wsV RX1 115 RX0 yX0_kind wsX0_kind) := goodIn_app (goodIn_of _ (by decide +kernel)) ggX1_arrive_X0_kind
set_option maxRecDepth 20000 in
theorem ggX1_arrive_X0_takeAway : GoodIn wsX1_arrive wsX0_takeAway := goodIn_r _ [12, 13, 14, 15, 16, 17, 18, 8, 19, 77, 78, 79, 80] (by decide +kernel) (by decide +kernel)
set_option maxRecDepth 20000 in
theorem gX1_arrive_X0_takeAway : GoodIn wsX1_arrive (wsV RX1 187 RX0 yX0_takeAway wsX0_takeAway) := goodIn_app (goodIn_of _ (by decide +kernel)) ggX1_arrive_X0_takeAway
set_option maxRecDepth 20000 in
theorem ggX1_arrive_X1_grantArrives : GoodIn wsX1_arrive wsX1_grantArrives := goodIn_r _ [24, 25, 2, 1, 26, 27, 28, 23, 29, 30, 31, 32, 33, 34, 35, 36, 37, 38, 39, 40, 41, 42, 43, 44, 45, 46, 47, 48, 49, 50, 51, 52, 53, 54, 55, 56, 57, 58, 59, 60, 61, 6, 62, 63, 64, 65, 66, 13, 14, 8, 19, 67, 68, 69, 70, 71, 72, 73, 74, 75, 76, 77, 78, 79, 80] (by decide +kernel) (by decide +kernel)
set_option maxRecDepth 20000 in
theorem gX1_arrive_X1_grantArrives : GoodIn wsX1_arrive (wsV RX1 190 RX1 yX1_grantArrives wsX1_grantArrives) := goodIn_app (goodIn_of _ (by decide +kernel)) ggX1_arrive_X1_grantArrives
set_option maxRecDepth 20000 in
theorem ggX1_arrive_X1_isLive : GoodIn wsX1_arrive wsX1_isLive := goodIn_r _ [40, 41, 31, 32, 23, 33, 34, 35, 36, 67, 68, 69, 70, 71, 72, 73, 74, 75, 76] (by decide +kernel) (by decide +kernel)
set_option maxRecDepth 20000 in
theorem gX1_arrive_X1_isLive : GoodIn wsX1_arrive (wsV RX1 65 RX1 yX1_isLive wsX1_isLive) := goodIn_app (goodIn_of _ (by decide +kernel)) ggX1_arrive_X1_isLive
theorem dX1_arrive_0 : decode cX1_arrive 0 = .ok (.aload_n 0, 1) := by decide +kernel
theorem dX1_arrive_1 : decode cX1_arrive 1 = .ok (.getfield 31, 3) := by decide +kernel
theorem dX1_arrive_4 : decode cX1_arrive 4 = .ok (.iload_n 1, 1) := by decide +kernel
theorem dX1_arrive_5 : decode cX1_arrive 5 = .ok (.invokevirtual 115, 3) := by decide +kernel
theorem dX1_arrive_8 : decode cX1_arrive 8 = .ok (.istore_n 2, 1) := by decide +kernel
theorem dX1_arrive_9 : decode cX1_arrive 9 = .ok (.aload_n 0, 1) := by decide +kernel
theorem dX1_arrive_10 : decode cX1_arrive 10 = .ok (.getfield 31, 3) := by decide +kernel
theorem dX1_arrive_13 : decode cX1_arrive 13 = .ok (.getfield 124, 3) := by decide +kernel
theorem dX1_arrive_16 : decode cX1_arrive 16 = .ok (.iload_n 1, 1) := by decide +kernel
theorem dX1_arrive_17 : decode cX1_arrive 17 = .ok (.iaload, 1) := by decide +kernel
theorem dX1_arrive_18 : decode cX1_arrive 18 = .ok (.istore_n 3, 1) := by decide +kernel
theorem dX1_arrive_19 : decode cX1_arrive 19 = .ok (.aload_n 0, 1) := by decide +kernel
theorem dX1_arrive_20 : decode cX1_arrive 20 = .ok (.getfield 31, 3) := by decide +kernel
theorem dX1_arrive_23 : decode cX1_arrive 23 = .ok (.getfield 127, 3) := by decide +kernel
theorem dX1_arrive_26 : decode cX1_arrive 26 = .ok (.iload_n 1, 1) := by decide +kernel
theorem dX1_arrive_27 : decode cX1_arrive 27 = .ok (.iaload, 1) := by decide +kernel
theorem dX1_arrive_28 : decode cX1_arrive 28 = .ok (.istore 4, 2) := by decide +kernel
theorem dX1_arrive_30 : decode cX1_arrive 30 = .ok (.aload_n 0, 1) := by decide +kernel
theorem dX1_arrive_31 : decode cX1_arrive 31 = .ok (.getfield 31, 3) := by decide +kernel
theorem dX1_arrive_34 : decode cX1_arrive 34 = .ok (.getfield 121, 3) := by decide +kernel
theorem dX1_arrive_37 : decode cX1_arrive 37 = .ok (.iload_n 1, 1) := by decide +kernel
theorem dX1_arrive_38 : decode cX1_arrive 38 = .ok (.iaload, 1) := by decide +kernel
theorem dX1_arrive_39 : decode cX1_arrive 39 = .ok (.istore 5, 2) := by decide +kernel
theorem dX1_arrive_41 : decode cX1_arrive 41 = .ok (.aload_n 0, 1) := by decide +kernel
theorem dX1_arrive_42 : decode cX1_arrive 42 = .ok (.getfield 31, 3) := by decide +kernel
theorem dX1_arrive_45 : decode cX1_arrive 45 = .ok (.iload_n 1, 1) := by decide +kernel
theorem dX1_arrive_46 : decode cX1_arrive 46 = .ok (.invokevirtual 187, 3) := by decide +kernel
theorem dX1_arrive_49 : decode cX1_arrive 49 = .ok (.iload_n 2, 1) := by decide +kernel
theorem dX1_arrive_50 : decode cX1_arrive 50 = .ok (.ifCond .ne 15, 3) := by decide +kernel
theorem dX1_arrive_53 : decode cX1_arrive 53 = .ok (.aload_n 0, 1) := by decide +kernel
theorem dX1_arrive_54 : decode cX1_arrive 54 = .ok (.iload_n 3, 1) := by decide +kernel
theorem dX1_arrive_55 : decode cX1_arrive 55 = .ok (.iload 4, 2) := by decide +kernel
theorem dX1_arrive_57 : decode cX1_arrive 57 = .ok (.iload 5, 2) := by decide +kernel
theorem dX1_arrive_59 : decode cX1_arrive 59 = .ok (.invokevirtual 190, 3) := by decide +kernel
theorem dX1_arrive_62 : decode cX1_arrive 62 = .ok (.goto 22, 3) := by decide +kernel
theorem dX1_arrive_65 : decode cX1_arrive 65 = .ok (.aload_n 0, 1) := by decide +kernel
theorem dX1_arrive_66 : decode cX1_arrive 66 = .ok (.iload_n 3, 1) := by decide +kernel
theorem dX1_arrive_67 : decode cX1_arrive 67 = .ok (.invokevirtual 65, 3) := by decide +kernel
theorem dX1_arrive_70 : decode cX1_arrive 70 = .ok (.ifCond .eq 14, 3) := by decide +kernel
theorem dX1_arrive_73 : decode cX1_arrive 73 = .ok (.aload_n 0, 1) := by decide +kernel
theorem dX1_arrive_74 : decode cX1_arrive 74 = .ok (.getfield 13, 3) := by decide +kernel
theorem dX1_arrive_77 : decode cX1_arrive 77 = .ok (.iload_n 3, 1) := by decide +kernel
theorem dX1_arrive_78 : decode cX1_arrive 78 = .ok (.dup2, 1) := by decide +kernel
theorem dX1_arrive_79 : decode cX1_arrive 79 = .ok (.iaload, 1) := by decide +kernel
theorem dX1_arrive_80 : decode cX1_arrive 80 = .ok (.iload 5, 2) := by decide +kernel
theorem dX1_arrive_82 : decode cX1_arrive 82 = .ok (.isub, 1) := by decide +kernel
theorem dX1_arrive_83 : decode cX1_arrive 83 = .ok (.iastore, 1) := by decide +kernel
theorem dX1_arrive_84 : decode cX1_arrive 84 = .ok (.iload_n 2, 1) := by decide +kernel
theorem dX1_arrive_85 : decode cX1_arrive 85 = .ok (.ireturn, 1) := by decide +kernel
set_option maxRecDepth 20000 in
theorem ggX1_grantArrives_X1_isDead : GoodIn wsX1_grantArrives wsX1_isDead := goodIn_r _ [8, 9, 10, 11, 7, 12, 13, 14, 15, 51, 52, 53, 54, 55, 56, 57, 58, 59, 60] (by decide +kernel) (by decide +kernel)
set_option maxRecDepth 20000 in
theorem gX1_grantArrives_X1_isDead : GoodIn wsX1_grantArrives (wsV RX1 55 RX1 yX1_isDead wsX1_isDead) := goodIn_app (goodIn_of _ (by decide +kernel)) ggX1_grantArrives_X1_isDead
set_option maxRecDepth 20000 in
theorem ggX1_grantArrives_X1_isLive : GoodIn wsX1_grantArrives wsX1_isLive := goodIn_r _ [19, 20, 10, 11, 7, 12, 13, 14, 15, 51, 52, 53, 54, 55, 56, 57, 58, 59, 60] (by decide +kernel) (by decide +kernel)
set_option maxRecDepth 20000 in
theorem gX1_grantArrives_X1_isLive : GoodIn wsX1_grantArrives (wsV RX1 65 RX1 yX1_isLive wsX1_isLive) := goodIn_app (goodIn_of _ (by decide +kernel)) ggX1_grantArrives_X1_isLive
set_option maxRecDepth 20000 in
theorem ggX1_grantArrives_X1_onOneHost : GoodIn wsX1_grantArrives wsX1_onOneHost := goodIn_r _ [24, 1, 51, 52, 53, 54, 55, 56, 57, 58, 59, 60] (by decide +kernel) (by decide +kernel)
set_option maxRecDepth 20000 in
theorem gX1_grantArrives_X1_onOneHost : GoodIn wsX1_grantArrives (wsV RX1 72 RX1 yX1_onOneHost wsX1_onOneHost) := goodIn_app (goodIn_of _ (by decide +kernel)) ggX1_grantArrives_X1_onOneHost
set_option maxRecDepth 20000 in
theorem ggX1_grantArrives_X1_addLink : GoodIn wsX1_grantArrives wsX1_addLink := goodIn_r _ [28, 29, 30, 31, 32, 33, 7, 34, 35, 36, 37, 51, 52, 53, 54, 55, 56, 57, 58, 59, 60] (by decide +kernel) (by decide +kernel)
set_option maxRecDepth 20000 in
theorem gX1_grantArrives_X1_addLink : GoodIn wsX1_grantArrives (wsV RX1 78 RX1 yX1_addLink wsX1_addLink) := goodIn_app (goodIn_of _ (by decide +kernel)) ggX1_grantArrives_X1_addLink
set_option maxRecDepth 20000 in
theorem ggX1_grantArrives_X0_sendReturn : GoodIn wsX1_grantArrives wsX0_sendReturn := goodIn_r _ [42, 43, 44, 45, 41, 46, 47, 48, 49, 50, 61, 62, 63, 64] (by decide +kernel) (by decide +kernel)
set_option maxRecDepth 20000 in
theorem gX1_grantArrives_X0_sendReturn : GoodIn wsX1_grantArrives (wsV RX1 89 RX0 yX0_sendReturn wsX0_sendReturn) := goodIn_app (goodIn_of _ (by decide +kernel)) ggX1_grantArrives_X0_sendReturn
theorem dX1_grantArrives_0 : decode cX1_grantArrives 0 = .ok (.aload_n 0, 1) := by decide +kernel
theorem dX1_grantArrives_1 : decode cX1_grantArrives 1 = .ok (.aload_n 0, 1) := by decide +kernel
theorem dX1_grantArrives_2 : decode cX1_grantArrives 2 = .ok (.getfield 9, 3) := by decide +kernel
theorem dX1_grantArrives_5 : decode cX1_grantArrives 5 = .ok (.iload_n 2, 1) := by decide +kernel
theorem dX1_grantArrives_6 : decode cX1_grantArrives 6 = .ok (.iaload, 1) := by decide +kernel
theorem dX1_grantArrives_7 : decode cX1_grantArrives 7 = .ok (.invokevirtual 55, 3) := by decide +kernel
theorem dX1_grantArrives_10 : decode cX1_grantArrives 10 = .ok (.ifCond .ne 11, 3) := by decide +kernel
theorem dX1_grantArrives_13 : decode cX1_grantArrives 13 = .ok (.aload_n 0, 1) := by decide +kernel
theorem dX1_grantArrives_14 : decode cX1_grantArrives 14 = .ok (.iload_n 1, 1) := by decide +kernel
theorem dX1_grantArrives_15 : decode cX1_grantArrives 15 = .ok (.invokevirtual 65, 3) := by decide +kernel
theorem dX1_grantArrives_18 : decode cX1_grantArrives 18 = .ok (.ifCond .ne 4, 3) := by decide +kernel
theorem dX1_grantArrives_21 : decode cX1_grantArrives 21 = .ok (.return_, 1) := by decide +kernel
theorem dX1_grantArrives_22 : decode cX1_grantArrives 22 = .ok (.aload_n 0, 1) := by decide +kernel
theorem dX1_grantArrives_23 : decode cX1_grantArrives 23 = .ok (.iload_n 2, 1) := by decide +kernel
theorem dX1_grantArrives_24 : decode cX1_grantArrives 24 = .ok (.iload_n 1, 1) := by decide +kernel
theorem dX1_grantArrives_25 : decode cX1_grantArrives 25 = .ok (.invokevirtual 72, 3) := by decide +kernel
theorem dX1_grantArrives_28 : decode cX1_grantArrives 28 = .ok (.istore 4, 2) := by decide +kernel
theorem dX1_grantArrives_30 : decode cX1_grantArrives 30 = .ok (.iload 4, 2) := by decide +kernel
theorem dX1_grantArrives_32 : decode cX1_grantArrives 32 = .ok (.ifCond .eq 13, 3) := by decide +kernel
theorem dX1_grantArrives_35 : decode cX1_grantArrives 35 = .ok (.aload_n 0, 1) := by decide +kernel
theorem dX1_grantArrives_36 : decode cX1_grantArrives 36 = .ok (.getfield 13, 3) := by decide +kernel
theorem dX1_grantArrives_39 : decode cX1_grantArrives 39 = .ok (.iload_n 1, 1) := by decide +kernel
theorem dX1_grantArrives_40 : decode cX1_grantArrives 40 = .ok (.dup2, 1) := by decide +kernel
theorem dX1_grantArrives_41 : decode cX1_grantArrives 41 = .ok (.iaload, 1) := by decide +kernel
theorem dX1_grantArrives_42 : decode cX1_grantArrives 42 = .ok (.iload_n 3, 1) := by decide +kernel
theorem dX1_grantArrives_43 : decode cX1_grantArrives 43 = .ok (.isub, 1) := by decide +kernel
theorem dX1_grantArrives_44 : decode cX1_grantArrives 44 = .ok (.iastore, 1) := by decide +kernel
theorem dX1_grantArrives_45 : decode cX1_grantArrives 45 = .ok (.aload_n 0, 1) := by decide +kernel
theorem dX1_grantArrives_46 : decode cX1_grantArrives 46 = .ok (.iload_n 2, 1) := by decide +kernel
theorem dX1_grantArrives_47 : decode cX1_grantArrives 47 = .ok (.invokevirtual 65, 3) := by decide +kernel
theorem dX1_grantArrives_50 : decode cX1_grantArrives 50 = .ok (.ifCond .eq 22, 3) := by decide +kernel
theorem dX1_grantArrives_53 : decode cX1_grantArrives 53 = .ok (.aload_n 0, 1) := by decide +kernel
theorem dX1_grantArrives_54 : decode cX1_grantArrives 54 = .ok (.iload_n 2, 1) := by decide +kernel
theorem dX1_grantArrives_55 : decode cX1_grantArrives 55 = .ok (.iload_n 1, 1) := by decide +kernel
theorem dX1_grantArrives_56 : decode cX1_grantArrives 56 = .ok (.iload 4, 2) := by decide +kernel
theorem dX1_grantArrives_58 : decode cX1_grantArrives 58 = .ok (.ifCond .eq 7, 3) := by decide +kernel
theorem dX1_grantArrives_61 : decode cX1_grantArrives 61 = .ok (.iconst 0, 1) := by decide +kernel
theorem dX1_grantArrives_62 : decode cX1_grantArrives 62 = .ok (.goto 4, 3) := by decide +kernel
theorem dX1_grantArrives_65 : decode cX1_grantArrives 65 = .ok (.iload_n 3, 1) := by decide +kernel
theorem dX1_grantArrives_66 : decode cX1_grantArrives 66 = .ok (.invokevirtual 78, 3) := by decide +kernel
theorem dX1_grantArrives_69 : decode cX1_grantArrives 69 = .ok (.goto 17, 3) := by decide +kernel
theorem dX1_grantArrives_72 : decode cX1_grantArrives 72 = .ok (.iload 4, 2) := by decide +kernel
theorem dX1_grantArrives_74 : decode cX1_grantArrives 74 = .ok (.ifCond .ne 12, 3) := by decide +kernel
theorem dX1_grantArrives_77 : decode cX1_grantArrives 77 = .ok (.aload_n 0, 1) := by decide +kernel
theorem dX1_grantArrives_78 : decode cX1_grantArrives 78 = .ok (.getfield 31, 3) := by decide +kernel
theorem dX1_grantArrives_81 : decode cX1_grantArrives 81 = .ok (.iload_n 1, 1) := by decide +kernel
theorem dX1_grantArrives_82 : decode cX1_grantArrives 82 = .ok (.iload_n 3, 1) := by decide +kernel
theorem dX1_grantArrives_83 : decode cX1_grantArrives 83 = .ok (.invokevirtual 89, 3) := by decide +kernel
theorem dX1_grantArrives_86 : decode cX1_grantArrives 86 = .ok (.return_, 1) := by decide +kernel
set_option maxRecDepth 20000 in
theorem ggX1_deliverAll_X1_arrive : GoodIn wsX1_deliverAll wsX1_arrive := goodIn_r _ [6, 1, 7, 8, 9, 10, 11, 12, 13, 14, 15, 16, 17, 18, 19, 20, 21, 22, 23, 24, 25, 26, 27, 5, 28, 29, 30, 31, 32, 33, 34, 35, 36, 37, 38, 39, 40, 41, 42, 43, 44, 45, 46, 47, 48, 49, 50, 51, 52, 53, 54, 55, 56, 57, 58, 59, 60, 61, 62, 63, 64, 65, 66, 67, 68, 69, 70, 71, 72, 73, 74, 75, 76, 77, 78, 79, 80, 81, 82, 83, 84] (by decide +kernel) (by decide +kernel)
set_option maxRecDepth 20000 in
theorem gX1_deliverAll_X1_arrive : GoodIn wsX1_deliverAll (wsV RX1 112 RX1 yX1_arrive wsX1_arrive) := goodIn_app (goodIn_of _ (by decide +kernel)) ggX1_deliverAll_X1_arrive
theorem dX1_deliverAll_0 : decode cX1_deliverAll 0 = .ok (.iconst 0, 1) := by decide +kernel
theorem dX1_deliverAll_1 : decode cX1_deliverAll 1 = .ok (.istore_n 1, 1) := by decide +kernel
theorem dX1_deliverAll_2 : decode cX1_deliverAll 2 = .ok (.iload_n 1, 1) := by decide +kernel
theorem dX1_deliverAll_3 : decode cX1_deliverAll 3 = .ok (.sipush 300, 3) := by decide +kernel
theorem dX1_deliverAll_6 : decode cX1_deliverAll 6 = .ok (.if_icmp .ge 25, 3) := by decide +kernel
theorem dX1_deliverAll_9 : decode cX1_deliverAll 9 = .ok (.aload_n 0, 1) := by decide +kernel
theorem dX1_deliverAll_10 : decode cX1_deliverAll 10 = .ok (.getfield 31, 3) := by decide +kernel
theorem dX1_deliverAll_13 : decode cX1_deliverAll 13 = .ok (.getfield 86, 3) := by decide +kernel
theorem dX1_deliverAll_16 : decode cX1_deliverAll 16 = .ok (.ifCond .le 15, 3) := by decide +kernel
theorem dX1_deliverAll_19 : decode cX1_deliverAll 19 = .ok (.aload_n 0, 1) := by decide +kernel
theorem dX1_deliverAll_20 : decode cX1_deliverAll 20 = .ok (.iconst 0, 1) := by decide +kernel
theorem dX1_deliverAll_21 : decode cX1_deliverAll 21 = .ok (.invokevirtual 112, 3) := by decide +kernel
theorem dX1_deliverAll_24 : decode cX1_deliverAll 24 = .ok (.pop, 1) := by decide +kernel
theorem dX1_deliverAll_25 : decode cX1_deliverAll 25 = .ok (.iinc 1 1, 3) := by decide +kernel
theorem dX1_deliverAll_28 : decode cX1_deliverAll 28 = .ok (.goto (-26), 3) := by decide +kernel
theorem dX1_deliverAll_31 : decode cX1_deliverAll 31 = .ok (.return_, 1) := by decide +kernel
set_option maxRecDepth 20000 in
theorem ggX1_staying_X1_livesOn : GoodIn wsX1_staying wsX1_livesOn := goodIn_r _ [8, 9, 10, 11, 12, 7, 13, 14, 15, 16, 17, 18, 19, 20, 26, 27, 28, 29, 30, 31, 32, 33, 34, 35] (by decide +kernel) (by decide +kernel)
set_option maxRecDepth 20000 in
theorem gX1_staying_X1_livesOn : GoodIn wsX1_staying (wsV RX1 136 RX1 yX1_livesOn wsX1_livesOn) := goodIn_app (goodIn_of _ (by decide +kernel)) ggX1_staying_X1_livesOn
set_option maxRecDepth 20000 in
theorem ggX1_staying_X1_isIn : GoodIn wsX1_staying wsX1_isIn := goodIn_r _ [17, 18, 19, 7, 20] (by decide +kernel) (by decide +kernel)
set_option maxRecDepth 20000 in
theorem gX1_staying_X1_isIn : GoodIn wsX1_staying (va_wsS RX1 68 yX1_isIn wsX1_isIn) := goodIn_app (goodIn_of _ (by decide +kernel)) ggX1_staying_X1_isIn
set_option maxRecDepth 20000 in
theorem ggX1_staying_X1_bit : GoodIn wsX1_staying wsX1_bit := goodIn_r _ [20] (by decide +kernel) (by decide +kernel)
set_option maxRecDepth 20000 in
theorem gX1_staying_X1_bit : GoodIn wsX1_staying (va_wsS RX1 58 yX1_bit wsX1_bit) := goodIn_app (goodIn_of _ (by decide +kernel)) ggX1_staying_X1_bit
set_option maxRecDepth 20000 in
theorem ggX1_staying_X1_withNear : GoodIn wsX1_staying wsX1_withNear := goodIn_r _ [24, 25, 15, 16, 7, 17, 18, 19, 20, 26, 27, 28, 29, 30, 31, 32, 33, 34, 35] (by decide +kernel) (by decide +kernel)
set_option maxRecDepth 20000 in
theorem gX1_staying_X1_withNear : GoodIn wsX1_staying (wsV RX1 193 RX1 yX1_withNear wsX1_withNear) := goodIn_app (goodIn_of _ (by decide +kernel)) ggX1_staying_X1_withNear
theorem dX1_staying_0 : decode cX1_staying 0 = .ok (.iconst 0, 1) := by decide +kernel
theorem dX1_staying_1 : decode cX1_staying 1 = .ok (.istore_n 2, 1) := by decide +kernel
theorem dX1_staying_2 : decode cX1_staying 2 = .ok (.iconst 0, 1) := by decide +kernel
theorem dX1_staying_3 : decode cX1_staying 3 = .ok (.istore_n 3, 1) := by decide +kernel
theorem dX1_staying_4 : decode cX1_staying 4 = .ok (.iload_n 3, 1) := by decide +kernel
theorem dX1_staying_5 : decode cX1_staying 5 = .ok (.aload_n 0, 1) := by decide +kernel
theorem dX1_staying_6 : decode cX1_staying 6 = .ok (.getfield 35, 3) := by decide +kernel
theorem dX1_staying_9 : decode cX1_staying 9 = .ok (.if_icmp .ge 45, 3) := by decide +kernel
theorem dX1_staying_12 : decode cX1_staying 12 = .ok (.aload_n 0, 1) := by decide +kernel
theorem dX1_staying_13 : decode cX1_staying 13 = .ok (.iload_n 3, 1) := by decide +kernel
theorem dX1_staying_14 : decode cX1_staying 14 = .ok (.iload_n 1, 1) := by decide +kernel
theorem dX1_staying_15 : decode cX1_staying 15 = .ok (.invokevirtual 136, 3) := by decide +kernel
theorem dX1_staying_18 : decode cX1_staying 18 = .ok (.ifCond .eq 30, 3) := by decide +kernel
theorem dX1_staying_21 : decode cX1_staying 21 = .ok (.aload_n 0, 1) := by decide +kernel
theorem dX1_staying_22 : decode cX1_staying 22 = .ok (.getfield 42, 3) := by decide +kernel
theorem dX1_staying_25 : decode cX1_staying 25 = .ok (.iload_n 3, 1) := by decide +kernel
theorem dX1_staying_26 : decode cX1_staying 26 = .ok (.invokestatic 68, 3) := by decide +kernel
theorem dX1_staying_29 : decode cX1_staying 29 = .ok (.ifCond .ne 12, 3) := by decide +kernel
theorem dX1_staying_32 : decode cX1_staying 32 = .ok (.aload_n 0, 1) := by decide +kernel
theorem dX1_staying_33 : decode cX1_staying 33 = .ok (.getfield 13, 3) := by decide +kernel
theorem dX1_staying_36 : decode cX1_staying 36 = .ok (.iload_n 3, 1) := by decide +kernel
theorem dX1_staying_37 : decode cX1_staying 37 = .ok (.iaload, 1) := by decide +kernel
theorem dX1_staying_38 : decode cX1_staying 38 = .ok (.ifCond .le 10, 3) := by decide +kernel
theorem dX1_staying_41 : decode cX1_staying 41 = .ok (.iload_n 2, 1) := by decide +kernel
theorem dX1_staying_42 : decode cX1_staying 42 = .ok (.iload_n 3, 1) := by decide +kernel
theorem dX1_staying_43 : decode cX1_staying 43 = .ok (.invokestatic 58, 3) := by decide +kernel
theorem dX1_staying_46 : decode cX1_staying 46 = .ok (.ior, 1) := by decide +kernel
theorem dX1_staying_47 : decode cX1_staying 47 = .ok (.istore_n 2, 1) := by decide +kernel
theorem dX1_staying_48 : decode cX1_staying 48 = .ok (.iinc 3 1, 3) := by decide +kernel
theorem dX1_staying_51 : decode cX1_staying 51 = .ok (.goto (-47), 3) := by decide +kernel
theorem dX1_staying_54 : decode cX1_staying 54 = .ok (.aload_n 0, 1) := by decide +kernel
theorem dX1_staying_55 : decode cX1_staying 55 = .ok (.iload_n 2, 1) := by decide +kernel
theorem dX1_staying_56 : decode cX1_staying 56 = .ok (.invokevirtual 193, 3) := by decide +kernel
theorem dX1_staying_59 : decode cX1_staying 59 = .ok (.ireturn, 1) := by decide +kernel
set_option maxRecDepth 20000 in
theorem ggX1_withNear_X1_isIn : GoodIn wsX1_withNear wsX1_isIn := goodIn_r _ [5, 6, 7, 4, 8] (by decide +kernel) (by decide +kernel)
set_option maxRecDepth 20000 in
theorem gX1_withNear_X1_isIn : GoodIn wsX1_withNear (va_wsS RX1 68 yX1_isIn wsX1_isIn) := goodIn_app (goodIn_of _ (by decide +kernel)) ggX1_withNear_X1_isIn
set_option maxRecDepth 20000 in
theorem ggX1_withNear_X1_bit : GoodIn wsX1_withNear wsX1_bit := goodIn_r _ [8] (by decide +kernel) (by decide +kernel)
set_option maxRecDepth 20000 in
theorem gX1_withNear_X1_bit : GoodIn wsX1_withNear (va_wsS RX1 58 yX1_bit wsX1_bit) := goodIn_app (goodIn_of _ (by decide +kernel)) ggX1_withNear_X1_bit
theorem dX1_withNear_0 : decode cX1_withNear 0 = .ok (.iload_n 1, 1) := by decide +kernel
theorem dX1_withNear_1 : decode cX1_withNear 1 = .ok (.istore_n 2, 1) := by decide +kernel
theorem dX1_withNear_2 : decode cX1_withNear 2 = .ok (.iconst 0, 1) := by decide +kernel
theorem dX1_withNear_3 : decode cX1_withNear 3 = .ok (.istore_n 3, 1) := by decide +kernel
theorem dX1_withNear_4 : decode cX1_withNear 4 = .ok (.iload_n 3, 1) := by decide +kernel
theorem dX1_withNear_5 : decode cX1_withNear 5 = .ok (.bipush 10, 2) := by decide +kernel
theorem dX1_withNear_7 : decode cX1_withNear 7 = .ok (.if_icmp .ge 61, 3) := by decide +kernel
theorem dX1_withNear_10 : decode cX1_withNear 10 = .ok (.iconst 0, 1) := by decide +kernel
theorem dX1_withNear_11 : decode cX1_withNear 11 = .ok (.istore 4, 2) := by decide +kernel
theorem dX1_withNear_13 : decode cX1_withNear 13 = .ok (.iload 4, 2) := by decide +kernel
theorem dX1_withNear_15 : decode cX1_withNear 15 = .ok (.aload_n 0, 1) := by decide +kernel
theorem dX1_withNear_16 : decode cX1_withNear 16 = .ok (.getfield 19, 3) := by decide +kernel
theorem dX1_withNear_19 : decode cX1_withNear 19 = .ok (.arraylength, 1) := by decide +kernel
theorem dX1_withNear_20 : decode cX1_withNear 20 = .ok (.if_icmp .ge 42, 3) := by decide +kernel
theorem dX1_withNear_23 : decode cX1_withNear 23 = .ok (.aload_n 0, 1) := by decide +kernel
theorem dX1_withNear_24 : decode cX1_withNear 24 = .ok (.getfield 19, 3) := by decide +kernel
theorem dX1_withNear_27 : decode cX1_withNear 27 = .ok (.iload 4, 2) := by decide +kernel
theorem dX1_withNear_29 : decode cX1_withNear 29 = .ok (.iaload, 1) := by decide +kernel
theorem dX1_withNear_30 : decode cX1_withNear 30 = .ok (.ifCond .ne 26, 3) := by decide +kernel
theorem dX1_withNear_33 : decode cX1_withNear 33 = .ok (.iload_n 2, 1) := by decide +kernel
theorem dX1_withNear_34 : decode cX1_withNear 34 = .ok (.iload 4, 2) := by decide +kernel
theorem dX1_withNear_36 : decode cX1_withNear 36 = .ok (.bipush 10, 2) := by decide +kernel
theorem dX1_withNear_38 : decode cX1_withNear 38 = .ok (.idiv, 1) := by decide +kernel
theorem dX1_withNear_39 : decode cX1_withNear 39 = .ok (.invokestatic 68, 3) := by decide +kernel
theorem dX1_withNear_42 : decode cX1_withNear 42 = .ok (.ifCond .eq 14, 3) := by decide +kernel
theorem dX1_withNear_45 : decode cX1_withNear 45 = .ok (.iload_n 2, 1) := by decide +kernel
theorem dX1_withNear_46 : decode cX1_withNear 46 = .ok (.iload 4, 2) := by decide +kernel
theorem dX1_withNear_48 : decode cX1_withNear 48 = .ok (.bipush 10, 2) := by decide +kernel
theorem dX1_withNear_50 : decode cX1_withNear 50 = .ok (.irem, 1) := by decide +kernel
theorem dX1_withNear_51 : decode cX1_withNear 51 = .ok (.invokestatic 58, 3) := by decide +kernel
theorem dX1_withNear_54 : decode cX1_withNear 54 = .ok (.ior, 1) := by decide +kernel
theorem dX1_withNear_55 : decode cX1_withNear 55 = .ok (.istore_n 2, 1) := by decide +kernel
theorem dX1_withNear_56 : decode cX1_withNear 56 = .ok (.iinc 4 1, 3) := by decide +kernel
theorem dX1_withNear_59 : decode cX1_withNear 59 = .ok (.goto (-46), 3) := by decide +kernel
theorem dX1_withNear_62 : decode cX1_withNear 62 = .ok (.iinc 3 1, 3) := by decide +kernel
theorem dX1_withNear_65 : decode cX1_withNear 65 = .ok (.goto (-61), 3) := by decide +kernel
theorem dX1_withNear_68 : decode cX1_withNear 68 = .ok (.iload_n 2, 1) := by decide +kernel
theorem dX1_withNear_69 : decode cX1_withNear 69 = .ok (.ireturn, 1) := by decide +kernel
set_option maxRecDepth 20000 in
theorem ggX1_collectOn_X1_livingOn : GoodIn wsX1_collectOn wsX1_livingOn := goodIn_r _ [6, 7, 8, 9, 10, 5, 11, 12, 13, 14, 15, 16, 17, 18, 19, 20, 21, 22, 23, 75, 76, 77, 78, 79, 80, 81, 82, 83, 84] (by decide +kernel) (by decide +kernel)
set_option maxRecDepth 20000 in
theorem gX1_collectOn_X1_livingOn : GoodIn wsX1_collectOn (wsV RX1 152 RX1 yX1_livingOn wsX1_livingOn) := goodIn_app (goodIn_of _ (by decide +kernel)) ggX1_collectOn_X1_livingOn
set_option maxRecDepth 20000 in
theorem ggX1_collectOn_X1_staying : GoodIn wsX1_collectOn wsX1_staying := goodIn_r _ [27, 7, 1, 28, 8, 9, 10, 5, 11, 12, 13, 14, 15, 16, 17, 18, 19, 20, 21, 22, 23, 29, 30, 31, 32, 33, 75, 76, 77, 78, 79, 80, 81, 82, 83, 84] (by decide +kernel) (by decide +kernel)
set_option maxRecDepth 20000 in
theorem gX1_collectOn_X1_staying : GoodIn wsX1_collectOn (wsV RX1 133 RX1 yX1_staying wsX1_staying) := goodIn_app (goodIn_of _ (by decide +kernel)) ggX1_collectOn_X1_staying
set_option maxRecDepth 20000 in
theorem ggX1_collectOn_X1_withNear : GoodIn wsX1_collectOn wsX1_withNear := goodIn_r _ [32, 33, 18, 19, 5, 20, 21, 22, 23, 75, 76, 77, 78, 79, 80, 81, 82, 83, 84] (by decide +kernel) (by decide +kernel)
set_option maxRecDepth 20000 in
theorem gX1_collectOn_X1_withNear : GoodIn wsX1_collectOn (wsV RX1 193 RX1 yX1_withNear wsX1_withNear) := goodIn_app (goodIn_of _ (by decide +kernel)) ggX1_collectOn_X1_withNear
set_option maxRecDepth 20000 in
theorem ggX1_collectOn_X1_grow : GoodIn wsX1_collectOn wsX1_grow := goodIn_r _ [37, 7, 38, 39, 40, 41, 42, 18, 19, 5, 20, 21, 22, 23, 75, 76, 77, 78, 79, 80, 81, 82, 83, 84] (by decide +kernel) (by decide +kernel)
set_option maxRecDepth 20000 in
theorem gX1_collectOn_X1_grow : GoodIn wsX1_collectOn (wsV RX1 196 RX1 yX1_grow wsX1_grow) := goodIn_app (goodIn_of _ (by decide +kernel)) ggX1_collectOn_X1_grow
set_option maxRecDepth 20000 in
theorem ggX1_collectOn_X1_sendReturnsOf : GoodIn wsX1_collectOn wsX1_sendReturnsOf := goodIn_r _ [46, 7, 33, 47, 18, 19, 5, 20, 21, 22, 23, 48, 49, 50, 51, 52, 53, 54, 55, 56, 57, 58, 59, 60, 61, 62, 63, 75, 76, 77, 78, 79, 80, 81, 82, 83, 84, 85, 86, 87, 88] (by decide +kernel) (by decide +kernel)
set_option maxRecDepth 20000 in
theorem gX1_collectOn_X1_sendReturnsOf : GoodIn wsX1_collectOn (wsV RX1 145 RX1 yX1_sendReturnsOf wsX1_sendReturnsOf) := goodIn_app (goodIn_of _ (by decide +kernel)) ggX1_collectOn_X1_sendReturnsOf
set_option maxRecDepth 20000 in
theorem ggX1_collectOn_X1_becomeGone : GoodIn wsX1_collectOn wsX1_becomeGone := goodIn_r _ [67, 7, 33, 17, 18, 19, 5, 20, 21, 22, 23, 48, 49, 50, 68, 69, 70, 71, 72, 73, 74, 75, 76, 77, 78, 79, 80, 81, 82, 83, 84] (by decide +kernel) (by decide +kernel)
set_option maxRecDepth 20000 in
theorem gX1_collectOn_X1_becomeGone : GoodIn wsX1_collectOn (wsV RX1 149 RX1 yX1_becomeGone wsX1_becomeGone) := goodIn_app (goodIn_of _ (by decide +kernel)) ggX1_collectOn_X1_becomeGone
theorem dX1_collectOn_0 : decode cX1_collectOn 0 = .ok (.aload_n 0, 1) := by decide +kernel
theorem dX1_collectOn_1 : decode cX1_collectOn 1 = .ok (.iload_n 1, 1) := by decide +kernel
theorem dX1_collectOn_2 : decode cX1_collectOn 2 = .ok (.invokevirtual 152, 3) := by decide +kernel
theorem dX1_collectOn_5 : decode cX1_collectOn 5 = .ok (.istore_n 2, 1) := by decide +kernel
theorem dX1_collectOn_6 : decode cX1_collectOn 6 = .ok (.aload_n 0, 1) := by decide +kernel
theorem dX1_collectOn_7 : decode cX1_collectOn 7 = .ok (.iload_n 1, 1) := by decide +kernel
theorem dX1_collectOn_8 : decode cX1_collectOn 8 = .ok (.invokevirtual 133, 3) := by decide +kernel
theorem dX1_collectOn_11 : decode cX1_collectOn 11 = .ok (.istore_n 3, 1) := by decide +kernel
theorem dX1_collectOn_12 : decode cX1_collectOn 12 = .ok (.aload_n 0, 1) := by decide +kernel
theorem dX1_collectOn_13 : decode cX1_collectOn 13 = .ok (.iload_n 3, 1) := by decide +kernel
theorem dX1_collectOn_14 : decode cX1_collectOn 14 = .ok (.aload_n 0, 1) := by decide +kernel
theorem dX1_collectOn_15 : decode cX1_collectOn 15 = .ok (.iload_n 2, 1) := by decide +kernel
theorem dX1_collectOn_16 : decode cX1_collectOn 16 = .ok (.aload_n 0, 1) := by decide +kernel
theorem dX1_collectOn_17 : decode cX1_collectOn 17 = .ok (.getfield 42, 3) := by decide +kernel
theorem dX1_collectOn_20 : decode cX1_collectOn 20 = .ok (.iand, 1) := by decide +kernel
theorem dX1_collectOn_21 : decode cX1_collectOn 21 = .ok (.invokevirtual 193, 3) := by decide +kernel
theorem dX1_collectOn_24 : decode cX1_collectOn 24 = .ok (.invokevirtual 196, 3) := by decide +kernel
theorem dX1_collectOn_27 : decode cX1_collectOn 27 = .ok (.iload_n 2, 1) := by decide +kernel
theorem dX1_collectOn_28 : decode cX1_collectOn 28 = .ok (.iload_n 3, 1) := by decide +kernel
theorem dX1_collectOn_29 : decode cX1_collectOn 29 = .ok (.iconst (-1), 1) := by decide +kernel
theorem dX1_collectOn_30 : decode cX1_collectOn 30 = .ok (.ixor, 1) := by decide +kernel
theorem dX1_collectOn_31 : decode cX1_collectOn 31 = .ok (.iand, 1) := by decide +kernel
theorem dX1_collectOn_32 : decode cX1_collectOn 32 = .ok (.istore 4, 2) := by decide +kernel
theorem dX1_collectOn_34 : decode cX1_collectOn 34 = .ok (.aload_n 0, 1) := by decide +kernel
theorem dX1_collectOn_35 : decode cX1_collectOn 35 = .ok (.iload 4, 2) := by decide +kernel
theorem dX1_collectOn_37 : decode cX1_collectOn 37 = .ok (.invokevirtual 145, 3) := by decide +kernel
theorem dX1_collectOn_40 : decode cX1_collectOn 40 = .ok (.aload_n 0, 1) := by decide +kernel
theorem dX1_collectOn_41 : decode cX1_collectOn 41 = .ok (.iload 4, 2) := by decide +kernel
theorem dX1_collectOn_43 : decode cX1_collectOn 43 = .ok (.invokevirtual 149, 3) := by decide +kernel
theorem dX1_collectOn_46 : decode cX1_collectOn 46 = .ok (.ireturn, 1) := by decide +kernel
set_option maxRecDepth 20000 in
theorem ggX1_grow_X1_isIn : GoodIn wsX1_grow wsX1_isIn := goodIn_r _ [10, 11, 12, 9, 13] (by decide +kernel) (by decide +kernel)
set_option maxRecDepth 20000 in
theorem gX1_grow_X1_isIn : GoodIn wsX1_grow (va_wsS RX1 68 yX1_isIn wsX1_isIn) := goodIn_app (goodIn_of _ (by decide +kernel)) ggX1_grow_X1_isIn
theorem dX1_grow_0 : decode cX1_grow 0 = .ok (.iconst 0, 1) := by decide +kernel
theorem dX1_grow_1 : decode cX1_grow 1 = .ok (.istore_n 3, 1) := by decide +kernel
theorem dX1_grow_2 : decode cX1_grow 2 = .ok (.iload_n 3, 1) := by decide +kernel
theorem dX1_grow_3 : decode cX1_grow 3 = .ok (.aload_n 0, 1) := by decide +kernel
theorem dX1_grow_4 : decode cX1_grow 4 = .ok (.getfield 35, 3) := by decide +kernel
theorem dX1_grow_7 : decode cX1_grow 7 = .ok (.if_icmp .ge 54, 3) := by decide +kernel
theorem dX1_grow_10 : decode cX1_grow 10 = .ok (.iload_n 2, 1) := by decide +kernel
theorem dX1_grow_11 : decode cX1_grow 11 = .ok (.iload_n 3, 1) := by decide +kernel
theorem dX1_grow_12 : decode cX1_grow 12 = .ok (.invokestatic 68, 3) := by decide +kernel
theorem dX1_grow_15 : decode cX1_grow 15 = .ok (.ifCond .eq 13, 3) := by decide +kernel
theorem dX1_grow_18 : decode cX1_grow 18 = .ok (.aload_n 0, 1) := by decide +kernel
theorem dX1_grow_19 : decode cX1_grow 19 = .ok (.getfield 16, 3) := by decide +kernel
theorem dX1_grow_22 : decode cX1_grow 22 = .ok (.iload_n 3, 1) := by decide +kernel
theorem dX1_grow_23 : decode cX1_grow 23 = .ok (.iconst 0, 1) := by decide +kernel
theorem dX1_grow_24 : decode cX1_grow 24 = .ok (.iastore, 1) := by decide +kernel
theorem dX1_grow_25 : decode cX1_grow 25 = .ok (.goto 30, 3) := by decide +kernel
theorem dX1_grow_28 : decode cX1_grow 28 = .ok (.iload_n 1, 1) := by decide +kernel
theorem dX1_grow_29 : decode cX1_grow 29 = .ok (.iload_n 3, 1) := by decide +kernel
theorem dX1_grow_30 : decode cX1_grow 30 = .ok (.invokestatic 68, 3) := by decide +kernel
theorem dX1_grow_33 : decode cX1_grow 33 = .ok (.ifCond .eq 22, 3) := by decide +kernel
theorem dX1_grow_36 : decode cX1_grow 36 = .ok (.aload_n 0, 1) := by decide +kernel
theorem dX1_grow_37 : decode cX1_grow 37 = .ok (.getfield 16, 3) := by decide +kernel
theorem dX1_grow_40 : decode cX1_grow 40 = .ok (.iload_n 3, 1) := by decide +kernel
theorem dX1_grow_41 : decode cX1_grow 41 = .ok (.aload_n 0, 1) := by decide +kernel
theorem dX1_grow_42 : decode cX1_grow 42 = .ok (.getfield 16, 3) := by decide +kernel
theorem dX1_grow_45 : decode cX1_grow 45 = .ok (.iload_n 3, 1) := by decide +kernel
theorem dX1_grow_46 : decode cX1_grow 46 = .ok (.iaload, 1) := by decide +kernel
theorem dX1_grow_47 : decode cX1_grow 47 = .ok (.iconst 1, 1) := by decide +kernel
theorem dX1_grow_48 : decode cX1_grow 48 = .ok (.iadd, 1) := by decide +kernel
theorem dX1_grow_49 : decode cX1_grow 49 = .ok (.bipush 9, 2) := by decide +kernel
theorem dX1_grow_51 : decode cX1_grow 51 = .ok (.invokestatic 199, 3) := by decide +kernel
theorem dX1_grow_54 : decode cX1_grow 54 = .ok (.iastore, 1) := by decide +kernel
theorem dX1_grow_55 : decode cX1_grow 55 = .ok (.iinc 3 1, 3) := by decide +kernel
theorem dX1_grow_58 : decode cX1_grow 58 = .ok (.goto (-56), 3) := by decide +kernel
theorem dX1_grow_61 : decode cX1_grow 61 = .ok (.return_, 1) := by decide +kernel
set_option maxRecDepth 20000 in
theorem ggX1_sendReturnsOf_X1_isIn : GoodIn wsX1_sendReturnsOf wsX1_isIn := goodIn_r _ [7, 8, 9, 6, 10] (by decide +kernel) (by decide +kernel)
set_option maxRecDepth 20000 in
theorem gX1_sendReturnsOf_X1_isIn : GoodIn wsX1_sendReturnsOf (va_wsS RX1 68 yX1_isIn wsX1_isIn) := goodIn_app (goodIn_of _ (by decide +kernel)) ggX1_sendReturnsOf_X1_isIn
set_option maxRecDepth 20000 in
theorem ggX1_sendReturnsOf_X1_at : GoodIn wsX1_sendReturnsOf wsX1_at := goodIn_r _ [13] (by decide +kernel) (by decide +kernel)
set_option maxRecDepth 20000 in
theorem gX1_sendReturnsOf_X1_at : GoodIn wsX1_sendReturnsOf (va_wsS RX1 82 yX1_at wsX1_at) := goodIn_app (goodIn_of _ (by decide +kernel)) ggX1_sendReturnsOf_X1_at
set_option maxRecDepth 20000 in
theorem ggX1_sendReturnsOf_X0_sendReturn : GoodIn wsX1_sendReturnsOf wsX0_sendReturn := goodIn_r _ [18, 19, 20, 21, 17, 22, 23, 24, 25, 26, 37, 38, 39, 40] (by decide +kernel) (by decide +kernel)
set_option maxRecDepth 20000 in
theorem gX1_sendReturnsOf_X0_sendReturn : GoodIn wsX1_sendReturnsOf (wsV RX1 89 RX0 yX0_sendReturn wsX0_sendReturn) := goodIn_app (goodIn_of _ (by decide +kernel)) ggX1_sendReturnsOf_X0_sendReturn
theorem dX1_sendReturnsOf_0 : decode cX1_sendReturnsOf 0 = .ok (.iconst 0, 1) := by decide +kernel
theorem dX1_sendReturnsOf_1 : decode cX1_sendReturnsOf 1 = .ok (.istore_n 2, 1) := by decide +kernel
theorem dX1_sendReturnsOf_2 : decode cX1_sendReturnsOf 2 = .ok (.iload_n 2, 1) := by decide +kernel
theorem dX1_sendReturnsOf_3 : decode cX1_sendReturnsOf 3 = .ok (.aload_n 0, 1) := by decide +kernel
theorem dX1_sendReturnsOf_4 : decode cX1_sendReturnsOf 4 = .ok (.getfield 35, 3) := by decide +kernel
theorem dX1_sendReturnsOf_7 : decode cX1_sendReturnsOf 7 = .ok (.if_icmp .ge 72, 3) := by decide +kernel
theorem dX1_sendReturnsOf_10 : decode cX1_sendReturnsOf 10 = .ok (.iconst 0, 1) := by decide +kernel
theorem dX1_sendReturnsOf_11 : decode cX1_sendReturnsOf 11 = .ok (.istore_n 3, 1) := by decide +kernel
theorem dX1_sendReturnsOf_12 : decode cX1_sendReturnsOf 12 = .ok (.iload_n 3, 1) := by decide +kernel
theorem dX1_sendReturnsOf_13 : decode cX1_sendReturnsOf 13 = .ok (.aload_n 0, 1) := by decide +kernel
theorem dX1_sendReturnsOf_14 : decode cX1_sendReturnsOf 14 = .ok (.getfield 35, 3) := by decide +kernel
theorem dX1_sendReturnsOf_17 : decode cX1_sendReturnsOf 17 = .ok (.if_icmp .ge 56, 3) := by decide +kernel
theorem dX1_sendReturnsOf_20 : decode cX1_sendReturnsOf 20 = .ok (.iload_n 1, 1) := by decide +kernel
theorem dX1_sendReturnsOf_21 : decode cX1_sendReturnsOf 21 = .ok (.iload_n 2, 1) := by decide +kernel
theorem dX1_sendReturnsOf_22 : decode cX1_sendReturnsOf 22 = .ok (.invokestatic 68, 3) := by decide +kernel
theorem dX1_sendReturnsOf_25 : decode cX1_sendReturnsOf 25 = .ok (.ifCond .eq 42, 3) := by decide +kernel
theorem dX1_sendReturnsOf_28 : decode cX1_sendReturnsOf 28 = .ok (.iload_n 1, 1) := by decide +kernel
theorem dX1_sendReturnsOf_29 : decode cX1_sendReturnsOf 29 = .ok (.iload_n 3, 1) := by decide +kernel
theorem dX1_sendReturnsOf_30 : decode cX1_sendReturnsOf 30 = .ok (.invokestatic 68, 3) := by decide +kernel
theorem dX1_sendReturnsOf_33 : decode cX1_sendReturnsOf 33 = .ok (.ifCond .ne 34, 3) := by decide +kernel
theorem dX1_sendReturnsOf_36 : decode cX1_sendReturnsOf 36 = .ok (.aload_n 0, 1) := by decide +kernel
theorem dX1_sendReturnsOf_37 : decode cX1_sendReturnsOf 37 = .ok (.getfield 19, 3) := by decide +kernel
theorem dX1_sendReturnsOf_40 : decode cX1_sendReturnsOf 40 = .ok (.iload_n 2, 1) := by decide +kernel
theorem dX1_sendReturnsOf_41 : decode cX1_sendReturnsOf 41 = .ok (.iload_n 3, 1) := by decide +kernel
theorem dX1_sendReturnsOf_42 : decode cX1_sendReturnsOf 42 = .ok (.invokestatic 82, 3) := by decide +kernel
theorem dX1_sendReturnsOf_45 : decode cX1_sendReturnsOf 45 = .ok (.iaload, 1) := by decide +kernel
theorem dX1_sendReturnsOf_46 : decode cX1_sendReturnsOf 46 = .ok (.ifCond .le 21, 3) := by decide +kernel
theorem dX1_sendReturnsOf_49 : decode cX1_sendReturnsOf 49 = .ok (.aload_n 0, 1) := by decide +kernel
theorem dX1_sendReturnsOf_50 : decode cX1_sendReturnsOf 50 = .ok (.getfield 31, 3) := by decide +kernel
theorem dX1_sendReturnsOf_53 : decode cX1_sendReturnsOf 53 = .ok (.iload_n 3, 1) := by decide +kernel
theorem dX1_sendReturnsOf_54 : decode cX1_sendReturnsOf 54 = .ok (.aload_n 0, 1) := by decide +kernel
theorem dX1_sendReturnsOf_55 : decode cX1_sendReturnsOf 55 = .ok (.getfield 19, 3) := by decide +kernel
theorem dX1_sendReturnsOf_58 : decode cX1_sendReturnsOf 58 = .ok (.iload_n 2, 1) := by decide +kernel
theorem dX1_sendReturnsOf_59 : decode cX1_sendReturnsOf 59 = .ok (.iload_n 3, 1) := by decide +kernel
theorem dX1_sendReturnsOf_60 : decode cX1_sendReturnsOf 60 = .ok (.invokestatic 82, 3) := by decide +kernel
theorem dX1_sendReturnsOf_63 : decode cX1_sendReturnsOf 63 = .ok (.iaload, 1) := by decide +kernel
theorem dX1_sendReturnsOf_64 : decode cX1_sendReturnsOf 64 = .ok (.invokevirtual 89, 3) := by decide +kernel
theorem dX1_sendReturnsOf_67 : decode cX1_sendReturnsOf 67 = .ok (.iinc 3 1, 3) := by decide +kernel
theorem dX1_sendReturnsOf_70 : decode cX1_sendReturnsOf 70 = .ok (.goto (-58), 3) := by decide +kernel
theorem dX1_sendReturnsOf_73 : decode cX1_sendReturnsOf 73 = .ok (.iinc 2 1, 3) := by decide +kernel
theorem dX1_sendReturnsOf_76 : decode cX1_sendReturnsOf 76 = .ok (.goto (-74), 3) := by decide +kernel
theorem dX1_sendReturnsOf_79 : decode cX1_sendReturnsOf 79 = .ok (.return_, 1) := by decide +kernel
set_option maxRecDepth 20000 in
theorem ggX1_becomeGone_X1_isIn : GoodIn wsX1_becomeGone wsX1_isIn := goodIn_r _ [7, 8, 9, 6, 10] (by decide +kernel) (by decide +kernel)
set_option maxRecDepth 20000 in
theorem gX1_becomeGone_X1_isIn : GoodIn wsX1_becomeGone (va_wsS RX1 68 yX1_isIn wsX1_isIn) := goodIn_app (goodIn_of _ (by decide +kernel)) ggX1_becomeGone_X1_isIn
set_option maxRecDepth 20000 in
theorem ggX1_becomeGone_X1_at : GoodIn wsX1_becomeGone wsX1_at := goodIn_r _ [13] (by decide +kernel) (by decide +kernel)
set_option maxRecDepth 20000 in
theorem gX1_becomeGone_X1_at : GoodIn wsX1_becomeGone (va_wsS RX1 82 yX1_at wsX1_at) := goodIn_app (goodIn_of _ (by decide +kernel)) ggX1_becomeGone_X1_at
set_option maxRecDepth 20000 in
theorem ggX1_becomeGone_J6_bitCount_0f7a4 : GoodIn wsX1_becomeGone wsJ6_bitCount_0f7a4 := goodIn_r _ [17, 18, 19, 20] (by decide +kernel) (by decide +kernel)
set_option maxRecDepth 20000 in
theorem gX1_becomeGone_J6_bitCount_0f7a4 : GoodIn wsX1_becomeGone (va_wsS RX1 168 yJ6_bitCount_0f7a4 wsJ6_bitCount_0f7a4) := goodIn_app (goodIn_of _ (by decide +kernel)) ggX1_becomeGone_J6_bitCount_0f7a4
theorem dX1_becomeGone_0 : decode cX1_becomeGone 0 = .ok (.iconst 0, 1) := by decide +kernel
theorem dX1_becomeGone_1 : decode cX1_becomeGone 1 = .ok (.istore_n 2, 1) := by decide +kernel
theorem dX1_becomeGone_2 : decode cX1_becomeGone 2 = .ok (.iload_n 2, 1) := by decide +kernel
theorem dX1_becomeGone_3 : decode cX1_becomeGone 3 = .ok (.aload_n 0, 1) := by decide +kernel
theorem dX1_becomeGone_4 : decode cX1_becomeGone 4 = .ok (.getfield 35, 3) := by decide +kernel
theorem dX1_becomeGone_7 : decode cX1_becomeGone 7 = .ok (.if_icmp .ge 53, 3) := by decide +kernel
theorem dX1_becomeGone_10 : decode cX1_becomeGone 10 = .ok (.iconst 0, 1) := by decide +kernel
theorem dX1_becomeGone_11 : decode cX1_becomeGone 11 = .ok (.istore_n 3, 1) := by decide +kernel
theorem dX1_becomeGone_12 : decode cX1_becomeGone 12 = .ok (.iload_n 3, 1) := by decide +kernel
theorem dX1_becomeGone_13 : decode cX1_becomeGone 13 = .ok (.aload_n 0, 1) := by decide +kernel
theorem dX1_becomeGone_14 : decode cX1_becomeGone 14 = .ok (.getfield 35, 3) := by decide +kernel
theorem dX1_becomeGone_17 : decode cX1_becomeGone 17 = .ok (.if_icmp .ge 37, 3) := by decide +kernel
theorem dX1_becomeGone_20 : decode cX1_becomeGone 20 = .ok (.iload_n 1, 1) := by decide +kernel
theorem dX1_becomeGone_21 : decode cX1_becomeGone 21 = .ok (.iload_n 2, 1) := by decide +kernel
theorem dX1_becomeGone_22 : decode cX1_becomeGone 22 = .ok (.invokestatic 68, 3) := by decide +kernel
theorem dX1_becomeGone_25 : decode cX1_becomeGone 25 = .ok (.ifCond .ne 11, 3) := by decide +kernel
theorem dX1_becomeGone_28 : decode cX1_becomeGone 28 = .ok (.iload_n 1, 1) := by decide +kernel
theorem dX1_becomeGone_29 : decode cX1_becomeGone 29 = .ok (.iload_n 3, 1) := by decide +kernel
theorem dX1_becomeGone_30 : decode cX1_becomeGone 30 = .ok (.invokestatic 68, 3) := by decide +kernel
theorem dX1_becomeGone_33 : decode cX1_becomeGone 33 = .ok (.ifCond .eq 15, 3) := by decide +kernel
theorem dX1_becomeGone_36 : decode cX1_becomeGone 36 = .ok (.aload_n 0, 1) := by decide +kernel
theorem dX1_becomeGone_37 : decode cX1_becomeGone 37 = .ok (.getfield 19, 3) := by decide +kernel
theorem dX1_becomeGone_40 : decode cX1_becomeGone 40 = .ok (.iload_n 2, 1) := by decide +kernel
theorem dX1_becomeGone_41 : decode cX1_becomeGone 41 = .ok (.iload_n 3, 1) := by decide +kernel
theorem dX1_becomeGone_42 : decode cX1_becomeGone 42 = .ok (.invokestatic 82, 3) := by decide +kernel
theorem dX1_becomeGone_45 : decode cX1_becomeGone 45 = .ok (.bipush (-9), 2) := by decide +kernel
theorem dX1_becomeGone_47 : decode cX1_becomeGone 47 = .ok (.iastore, 1) := by decide +kernel
theorem dX1_becomeGone_48 : decode cX1_becomeGone 48 = .ok (.iinc 3 1, 3) := by decide +kernel
theorem dX1_becomeGone_51 : decode cX1_becomeGone 51 = .ok (.goto (-39), 3) := by decide +kernel
theorem dX1_becomeGone_54 : decode cX1_becomeGone 54 = .ok (.iinc 2 1, 3) := by decide +kernel
theorem dX1_becomeGone_57 : decode cX1_becomeGone 57 = .ok (.goto (-55), 3) := by decide +kernel
theorem dX1_becomeGone_60 : decode cX1_becomeGone 60 = .ok (.aload_n 0, 1) := by decide +kernel
theorem dX1_becomeGone_61 : decode cX1_becomeGone 61 = .ok (.dup, 1) := by decide +kernel
theorem dX1_becomeGone_62 : decode cX1_becomeGone 62 = .ok (.getfield 39, 3) := by decide +kernel
theorem dX1_becomeGone_65 : decode cX1_becomeGone 65 = .ok (.iload_n 1, 1) := by decide +kernel
theorem dX1_becomeGone_66 : decode cX1_becomeGone 66 = .ok (.iconst (-1), 1) := by decide +kernel
theorem dX1_becomeGone_67 : decode cX1_becomeGone 67 = .ok (.ixor, 1) := by decide +kernel
theorem dX1_becomeGone_68 : decode cX1_becomeGone 68 = .ok (.iand, 1) := by decide +kernel
theorem dX1_becomeGone_69 : decode cX1_becomeGone 69 = .ok (.putfield 39, 3) := by decide +kernel
theorem dX1_becomeGone_72 : decode cX1_becomeGone 72 = .ok (.iload_n 1, 1) := by decide +kernel
theorem dX1_becomeGone_73 : decode cX1_becomeGone 73 = .ok (.invokestatic 168, 3) := by decide +kernel
theorem dX1_becomeGone_76 : decode cX1_becomeGone 76 = .ok (.ireturn, 1) := by decide +kernel
set_option maxRecDepth 20000 in
theorem ggX1_backOf_X1_bit : GoodIn wsX1_backOf wsX1_bit := goodIn_r _ [5] (by decide +kernel) (by decide +kernel)
set_option maxRecDepth 20000 in
theorem gX1_backOf_X1_bit : GoodIn wsX1_backOf (va_wsS RX1 58 yX1_bit wsX1_bit) := goodIn_app (goodIn_of _ (by decide +kernel)) ggX1_backOf_X1_bit
set_option maxRecDepth 20000 in
theorem ggX1_backOf_X1_linkedFrom : GoodIn wsX1_backOf wsX1_linkedFrom := goodIn_r _ [9, 1, 10, 11, 12, 4, 13, 14, 15, 16, 17, 2, 3, 5, 18, 19, 20, 21, 22, 23, 24, 25, 26, 27] (by decide +kernel) (by decide +kernel)
set_option maxRecDepth 20000 in
theorem gX1_backOf_X1_linkedFrom : GoodIn wsX1_backOf (wsV RX1 93 RX1 yX1_linkedFrom wsX1_linkedFrom) := goodIn_app (goodIn_of _ (by decide +kernel)) ggX1_backOf_X1_linkedFrom
theorem dX1_backOf_0 : decode cX1_backOf 0 = .ok (.iload_n 1, 1) := by decide +kernel
theorem dX1_backOf_1 : decode cX1_backOf 1 = .ok (.invokestatic 58, 3) := by decide +kernel
theorem dX1_backOf_4 : decode cX1_backOf 4 = .ok (.istore_n 2, 1) := by decide +kernel
theorem dX1_backOf_5 : decode cX1_backOf 5 = .ok (.iconst 0, 1) := by decide +kernel
theorem dX1_backOf_6 : decode cX1_backOf 6 = .ok (.istore_n 3, 1) := by decide +kernel
theorem dX1_backOf_7 : decode cX1_backOf 7 = .ok (.iload_n 3, 1) := by decide +kernel
theorem dX1_backOf_8 : decode cX1_backOf 8 = .ok (.bipush 10, 2) := by decide +kernel
theorem dX1_backOf_10 : decode cX1_backOf 10 = .ok (.if_icmp .ge 46, 3) := by decide +kernel
theorem dX1_backOf_13 : decode cX1_backOf 13 = .ok (.iconst 0, 1) := by decide +kernel
theorem dX1_backOf_14 : decode cX1_backOf 14 = .ok (.istore 4, 2) := by decide +kernel
theorem dX1_backOf_16 : decode cX1_backOf 16 = .ok (.iload 4, 2) := by decide +kernel
theorem dX1_backOf_18 : decode cX1_backOf 18 = .ok (.aload_n 0, 1) := by decide +kernel
theorem dX1_backOf_19 : decode cX1_backOf 19 = .ok (.getfield 35, 3) := by decide +kernel
theorem dX1_backOf_22 : decode cX1_backOf 22 = .ok (.if_icmp .ge 28, 3) := by decide +kernel
theorem dX1_backOf_25 : decode cX1_backOf 25 = .ok (.aload_n 0, 1) := by decide +kernel
theorem dX1_backOf_26 : decode cX1_backOf 26 = .ok (.iload 4, 2) := by decide +kernel
theorem dX1_backOf_28 : decode cX1_backOf 28 = .ok (.invokevirtual 93, 3) := by decide +kernel
theorem dX1_backOf_31 : decode cX1_backOf 31 = .ok (.iload_n 2, 1) := by decide +kernel
theorem dX1_backOf_32 : decode cX1_backOf 32 = .ok (.iand, 1) := by decide +kernel
theorem dX1_backOf_33 : decode cX1_backOf 33 = .ok (.ifCond .eq 11, 3) := by decide +kernel
theorem dX1_backOf_36 : decode cX1_backOf 36 = .ok (.iload_n 2, 1) := by decide +kernel
theorem dX1_backOf_37 : decode cX1_backOf 37 = .ok (.iload 4, 2) := by decide +kernel
theorem dX1_backOf_39 : decode cX1_backOf 39 = .ok (.invokestatic 58, 3) := by decide +kernel
theorem dX1_backOf_42 : decode cX1_backOf 42 = .ok (.ior, 1) := by decide +kernel
theorem dX1_backOf_43 : decode cX1_backOf 43 = .ok (.istore_n 2, 1) := by decide +kernel
theorem dX1_backOf_44 : decode cX1_backOf 44 = .ok (.iinc 4 1, 3) := by decide +kernel
theorem dX1_backOf_47 : decode cX1_backOf 47 = .ok (.goto (-31), 3) := by decide +kernel
theorem dX1_backOf_50 : decode cX1_backOf 50 = .ok (.iinc 3 1, 3) := by decide +kernel
theorem dX1_backOf_53 : decode cX1_backOf 53 = .ok (.goto (-46), 3) := by decide +kernel
theorem dX1_backOf_56 : decode cX1_backOf 56 = .ok (.iload_n 2, 1) := by decide +kernel
theorem dX1_backOf_57 : decode cX1_backOf 57 = .ok (.ireturn, 1) := by decide +kernel
set_option maxRecDepth 20000 in
theorem ggX1_heldBy_X0_kind : GoodIn wsX1_heldBy wsX0_kind := goodIn_r _ [7, 8, 26, 27, 28, 29] (by decide +kernel) (by decide +kernel)
set_option maxRecDepth 20000 in
theorem gX1_heldBy_X0_kind : GoodIn wsX1_heldBy (wsV RX1 115 RX0 yX0_kind wsX0_kind) := goodIn_app (goodIn_of _ (by decide +kernel)) ggX1_heldBy_X0_kind
set_option maxRecDepth 20000 in
theorem ggX1_heldBy_X1_isIn : GoodIn wsX1_heldBy wsX1_isIn := goodIn_r _ [12, 13, 14, 11, 15] (by decide +kernel) (by decide +kernel)
set_option maxRecDepth 20000 in
theorem gX1_heldBy_X1_isIn : GoodIn wsX1_heldBy (va_wsS RX1 68 yX1_isIn wsX1_isIn) := goodIn_app (goodIn_of _ (by decide +kernel)) ggX1_heldBy_X1_isIn
theorem dX1_heldBy_0 : decode cX1_heldBy 0 = .ok (.iload_n 1, 1) := by decide +kernel
theorem dX1_heldBy_1 : decode cX1_heldBy 1 = .ok (.aload_n 0, 1) := by decide +kernel
theorem dX1_heldBy_2 : decode cX1_heldBy 2 = .ok (.getfield 42, 3) := by decide +kernel
theorem dX1_heldBy_5 : decode cX1_heldBy 5 = .ok (.iand, 1) := by decide +kernel
theorem dX1_heldBy_6 : decode cX1_heldBy 6 = .ok (.ifCond .eq 5, 3) := by decide +kernel
theorem dX1_heldBy_9 : decode cX1_heldBy 9 = .ok (.iconst 1, 1) := by decide +kernel
theorem dX1_heldBy_10 : decode cX1_heldBy 10 = .ok (.ireturn, 1) := by decide +kernel
theorem dX1_heldBy_11 : decode cX1_heldBy 11 = .ok (.iconst 0, 1) := by decide +kernel
theorem dX1_heldBy_12 : decode cX1_heldBy 12 = .ok (.istore_n 2, 1) := by decide +kernel
theorem dX1_heldBy_13 : decode cX1_heldBy 13 = .ok (.iload_n 2, 1) := by decide +kernel
theorem dX1_heldBy_14 : decode cX1_heldBy 14 = .ok (.aload_n 0, 1) := by decide +kernel
theorem dX1_heldBy_15 : decode cX1_heldBy 15 = .ok (.getfield 31, 3) := by decide +kernel
theorem dX1_heldBy_18 : decode cX1_heldBy 18 = .ok (.getfield 86, 3) := by decide +kernel
theorem dX1_heldBy_21 : decode cX1_heldBy 21 = .ok (.if_icmp .ge 38, 3) := by decide +kernel
theorem dX1_heldBy_24 : decode cX1_heldBy 24 = .ok (.aload_n 0, 1) := by decide +kernel
theorem dX1_heldBy_25 : decode cX1_heldBy 25 = .ok (.getfield 31, 3) := by decide +kernel
theorem dX1_heldBy_28 : decode cX1_heldBy 28 = .ok (.iload_n 2, 1) := by decide +kernel
theorem dX1_heldBy_29 : decode cX1_heldBy 29 = .ok (.invokevirtual 115, 3) := by decide +kernel
theorem dX1_heldBy_32 : decode cX1_heldBy 32 = .ok (.ifCond .ne 21, 3) := by decide +kernel
theorem dX1_heldBy_35 : decode cX1_heldBy 35 = .ok (.iload_n 1, 1) := by decide +kernel
theorem dX1_heldBy_36 : decode cX1_heldBy 36 = .ok (.aload_n 0, 1) := by decide +kernel
theorem dX1_heldBy_37 : decode cX1_heldBy 37 = .ok (.getfield 31, 3) := by decide +kernel
theorem dX1_heldBy_40 : decode cX1_heldBy 40 = .ok (.getfield 124, 3) := by decide +kernel
theorem dX1_heldBy_43 : decode cX1_heldBy 43 = .ok (.iload_n 2, 1) := by decide +kernel
theorem dX1_heldBy_44 : decode cX1_heldBy 44 = .ok (.iaload, 1) := by decide +kernel
theorem dX1_heldBy_45 : decode cX1_heldBy 45 = .ok (.invokestatic 68, 3) := by decide +kernel
theorem dX1_heldBy_48 : decode cX1_heldBy 48 = .ok (.ifCond .eq 5, 3) := by decide +kernel
theorem dX1_heldBy_51 : decode cX1_heldBy 51 = .ok (.iconst 2, 1) := by decide +kernel
theorem dX1_heldBy_52 : decode cX1_heldBy 52 = .ok (.ireturn, 1) := by decide +kernel
theorem dX1_heldBy_53 : decode cX1_heldBy 53 = .ok (.iinc 2 1, 3) := by decide +kernel
theorem dX1_heldBy_56 : decode cX1_heldBy 56 = .ok (.goto (-43), 3) := by decide +kernel
theorem dX1_heldBy_59 : decode cX1_heldBy 59 = .ok (.iconst 0, 1) := by decide +kernel
theorem dX1_heldBy_60 : decode cX1_heldBy 60 = .ok (.ireturn, 1) := by decide +kernel
set_option maxRecDepth 20000 in
theorem ggX1_inLinksTo_X1_hasLink : GoodIn wsX1_inLinksTo wsX1_hasLink := goodIn_r _ [7, 2, 8, 9, 6, 10, 11, 12, 13, 14, 15, 16, 17, 18, 19, 20] (by decide +kernel) (by decide +kernel)
set_option maxRecDepth 20000 in
theorem gX1_inLinksTo_X1_hasLink : GoodIn wsX1_inLinksTo (wsV RX1 75 RX1 yX1_hasLink wsX1_hasLink) := goodIn_app (goodIn_of _ (by decide +kernel)) ggX1_inLinksTo_X1_hasLink
set_option maxRecDepth 20000 in
theorem ggX1_inLinksTo_X1_at : GoodIn wsX1_inLinksTo wsX1_at := goodIn_r _ [10] (by decide +kernel) (by decide +kernel)
set_option maxRecDepth 20000 in
theorem gX1_inLinksTo_X1_at : GoodIn wsX1_inLinksTo (va_wsS RX1 82 yX1_at wsX1_at) := goodIn_app (goodIn_of _ (by decide +kernel)) ggX1_inLinksTo_X1_at
theorem dX1_inLinksTo_0 : decode cX1_inLinksTo 0 = .ok (.iconst 0, 1) := by decide +kernel
theorem dX1_inLinksTo_1 : decode cX1_inLinksTo 1 = .ok (.istore_n 2, 1) := by decide +kernel
theorem dX1_inLinksTo_2 : decode cX1_inLinksTo 2 = .ok (.iconst 0, 1) := by decide +kernel
theorem dX1_inLinksTo_3 : decode cX1_inLinksTo 3 = .ok (.istore_n 3, 1) := by decide +kernel
theorem dX1_inLinksTo_4 : decode cX1_inLinksTo 4 = .ok (.iload_n 3, 1) := by decide +kernel
theorem dX1_inLinksTo_5 : decode cX1_inLinksTo 5 = .ok (.aload_n 0, 1) := by decide +kernel
theorem dX1_inLinksTo_6 : decode cX1_inLinksTo 6 = .ok (.getfield 35, 3) := by decide +kernel
theorem dX1_inLinksTo_9 : decode cX1_inLinksTo 9 = .ok (.if_icmp .ge 31, 3) := by decide +kernel
theorem dX1_inLinksTo_12 : decode cX1_inLinksTo 12 = .ok (.aload_n 0, 1) := by decide +kernel
theorem dX1_inLinksTo_13 : decode cX1_inLinksTo 13 = .ok (.iload_n 3, 1) := by decide +kernel
theorem dX1_inLinksTo_14 : decode cX1_inLinksTo 14 = .ok (.iload_n 1, 1) := by decide +kernel
theorem dX1_inLinksTo_15 : decode cX1_inLinksTo 15 = .ok (.invokevirtual 75, 3) := by decide +kernel
theorem dX1_inLinksTo_18 : decode cX1_inLinksTo 18 = .ok (.ifCond .eq 16, 3) := by decide +kernel
theorem dX1_inLinksTo_21 : decode cX1_inLinksTo 21 = .ok (.iload_n 2, 1) := by decide +kernel
theorem dX1_inLinksTo_22 : decode cX1_inLinksTo 22 = .ok (.aload_n 0, 1) := by decide +kernel
theorem dX1_inLinksTo_23 : decode cX1_inLinksTo 23 = .ok (.getfield 19, 3) := by decide +kernel
theorem dX1_inLinksTo_26 : decode cX1_inLinksTo 26 = .ok (.iload_n 3, 1) := by decide +kernel
theorem dX1_inLinksTo_27 : decode cX1_inLinksTo 27 = .ok (.iload_n 1, 1) := by decide +kernel
theorem dX1_inLinksTo_28 : decode cX1_inLinksTo 28 = .ok (.invokestatic 82, 3) := by decide +kernel
theorem dX1_inLinksTo_31 : decode cX1_inLinksTo 31 = .ok (.iaload, 1) := by decide +kernel
theorem dX1_inLinksTo_32 : decode cX1_inLinksTo 32 = .ok (.iadd, 1) := by decide +kernel
theorem dX1_inLinksTo_33 : decode cX1_inLinksTo 33 = .ok (.istore_n 2, 1) := by decide +kernel
theorem dX1_inLinksTo_34 : decode cX1_inLinksTo 34 = .ok (.iinc 3 1, 3) := by decide +kernel
theorem dX1_inLinksTo_37 : decode cX1_inLinksTo 37 = .ok (.goto (-33), 3) := by decide +kernel
theorem dX1_inLinksTo_40 : decode cX1_inLinksTo 40 = .ok (.iload_n 2, 1) := by decide +kernel
theorem dX1_inLinksTo_41 : decode cX1_inLinksTo 41 = .ok (.ireturn, 1) := by decide +kernel
set_option maxRecDepth 20000 in
theorem ggX1_inLettersAbout_X1_goesTo : GoodIn wsX1_inLettersAbout wsX1_goesTo := goodIn_r _ [6, 1, 7, 19, 20, 21, 22, 23, 24, 25, 26, 27, 28, 29, 30, 31, 32] (by decide +kernel) (by decide +kernel)
set_option maxRecDepth 20000 in
theorem gX1_inLettersAbout_X1_goesTo : GoodIn wsX1_inLettersAbout (wsV RX1 118 RX1 yX1_goesTo wsX1_goesTo) := goodIn_app (goodIn_of _ (by decide +kernel)) ggX1_inLettersAbout_X1_goesTo
set_option maxRecDepth 20000 in
theorem ggX1_inLettersAbout_X1_isDead : GoodIn wsX1_inLettersAbout wsX1_isDead := goodIn_r _ [11, 12, 13, 14, 5, 15, 16, 17, 18, 19, 20, 21, 22, 23, 24, 25, 26, 27, 28] (by decide +kernel) (by decide +kernel)
set_option maxRecDepth 20000 in
theorem gX1_inLettersAbout_X1_isDead : GoodIn wsX1_inLettersAbout (wsV RX1 55 RX1 yX1_isDead wsX1_isDead) := goodIn_app (goodIn_of _ (by decide +kernel)) ggX1_inLettersAbout_X1_isDead
theorem dX1_inLettersAbout_0 : decode cX1_inLettersAbout 0 = .ok (.iconst 0, 1) := by decide +kernel
theorem dX1_inLettersAbout_1 : decode cX1_inLettersAbout 1 = .ok (.istore_n 3, 1) := by decide +kernel
theorem dX1_inLettersAbout_2 : decode cX1_inLettersAbout 2 = .ok (.iconst 0, 1) := by decide +kernel
theorem dX1_inLettersAbout_3 : decode cX1_inLettersAbout 3 = .ok (.istore 4, 2) := by decide +kernel
theorem dX1_inLettersAbout_5 : decode cX1_inLettersAbout 5 = .ok (.iload 4, 2) := by decide +kernel
theorem dX1_inLettersAbout_7 : decode cX1_inLettersAbout 7 = .ok (.aload_n 0, 1) := by decide +kernel
theorem dX1_inLettersAbout_8 : decode cX1_inLettersAbout 8 = .ok (.getfield 31, 3) := by decide +kernel
theorem dX1_inLettersAbout_11 : decode cX1_inLettersAbout 11 = .ok (.getfield 86, 3) := by decide +kernel
theorem dX1_inLettersAbout_14 : decode cX1_inLettersAbout 14 = .ok (.if_icmp .ge 53, 3) := by decide +kernel
theorem dX1_inLettersAbout_17 : decode cX1_inLettersAbout 17 = .ok (.aload_n 0, 1) := by decide +kernel
theorem dX1_inLettersAbout_18 : decode cX1_inLettersAbout 18 = .ok (.getfield 31, 3) := by decide +kernel
theorem dX1_inLettersAbout_21 : decode cX1_inLettersAbout 21 = .ok (.getfield 124, 3) := by decide +kernel
theorem dX1_inLettersAbout_24 : decode cX1_inLettersAbout 24 = .ok (.iload 4, 2) := by decide +kernel
theorem dX1_inLettersAbout_26 : decode cX1_inLettersAbout 26 = .ok (.iaload, 1) := by decide +kernel
theorem dX1_inLettersAbout_27 : decode cX1_inLettersAbout 27 = .ok (.iload_n 1, 1) := by decide +kernel
theorem dX1_inLettersAbout_28 : decode cX1_inLettersAbout 28 = .ok (.if_icmp .ne 33, 3) := by decide +kernel
theorem dX1_inLettersAbout_31 : decode cX1_inLettersAbout 31 = .ok (.iload_n 2, 1) := by decide +kernel
theorem dX1_inLettersAbout_32 : decode cX1_inLettersAbout 32 = .ok (.ifCond .ne 16, 3) := by decide +kernel
theorem dX1_inLettersAbout_35 : decode cX1_inLettersAbout 35 = .ok (.aload_n 0, 1) := by decide +kernel
theorem dX1_inLettersAbout_36 : decode cX1_inLettersAbout 36 = .ok (.aload_n 0, 1) := by decide +kernel
theorem dX1_inLettersAbout_37 : decode cX1_inLettersAbout 37 = .ok (.iload 4, 2) := by decide +kernel
theorem dX1_inLettersAbout_39 : decode cX1_inLettersAbout 39 = .ok (.invokevirtual 118, 3) := by decide +kernel
theorem dX1_inLettersAbout_42 : decode cX1_inLettersAbout 42 = .ok (.invokevirtual 55, 3) := by decide +kernel
theorem dX1_inLettersAbout_45 : decode cX1_inLettersAbout 45 = .ok (.ifCond .ne 16, 3) := by decide +kernel
theorem dX1_inLettersAbout_48 : decode cX1_inLettersAbout 48 = .ok (.iload_n 3, 1) := by decide +kernel
theorem dX1_inLettersAbout_49 : decode cX1_inLettersAbout 49 = .ok (.aload_n 0, 1) := by decide +kernel
theorem dX1_inLettersAbout_50 : decode cX1_inLettersAbout 50 = .ok (.getfield 31, 3) := by decide +kernel
theorem dX1_inLettersAbout_53 : decode cX1_inLettersAbout 53 = .ok (.getfield 121, 3) := by decide +kernel
theorem dX1_inLettersAbout_56 : decode cX1_inLettersAbout 56 = .ok (.iload 4, 2) := by decide +kernel
theorem dX1_inLettersAbout_58 : decode cX1_inLettersAbout 58 = .ok (.iaload, 1) := by decide +kernel
theorem dX1_inLettersAbout_59 : decode cX1_inLettersAbout 59 = .ok (.iadd, 1) := by decide +kernel
theorem dX1_inLettersAbout_60 : decode cX1_inLettersAbout 60 = .ok (.istore_n 3, 1) := by decide +kernel
theorem dX1_inLettersAbout_61 : decode cX1_inLettersAbout 61 = .ok (.iinc 4 1, 3) := by decide +kernel
theorem dX1_inLettersAbout_64 : decode cX1_inLettersAbout 64 = .ok (.goto (-59), 3) := by decide +kernel
theorem dX1_inLettersAbout_67 : decode cX1_inLettersAbout 67 = .ok (.iload_n 3, 1) := by decide +kernel
theorem dX1_inLettersAbout_68 : decode cX1_inLettersAbout 68 = .ok (.ireturn, 1) := by decide +kernel
set_option maxRecDepth 20000 in
theorem ggX1_isBalanced_X1_isLive : GoodIn wsX1_isBalanced wsX1_isLive := goodIn_r _ [7, 8, 9, 10, 6, 11, 12, 13, 14, 42, 43, 44, 45, 46, 47, 48, 49, 50, 51] (by decide +kernel) (by decide +kernel)
set_option maxRecDepth 20000 in
theorem gX1_isBalanced_X1_isLive : GoodIn wsX1_isBalanced (wsV RX1 65 RX1 yX1_isLive wsX1_isLive) := goodIn_app (goodIn_of _ (by decide +kernel)) ggX1_isBalanced_X1_isLive
set_option maxRecDepth 20000 in
theorem ggX1_isBalanced_X1_inLinksTo : GoodIn wsX1_isBalanced wsX1_inLinksTo := goodIn_r _ [18, 1, 19, 20, 21, 22, 6, 23, 24, 25, 26, 42, 43, 44, 45, 46, 47, 48, 49, 50, 51] (by decide +kernel) (by decide +kernel)
set_option maxRecDepth 20000 in
theorem gX1_isBalanced_X1_inLinksTo : GoodIn wsX1_isBalanced (wsV RX1 155 RX1 yX1_inLinksTo wsX1_inLinksTo) := goodIn_app (goodIn_of _ (by decide +kernel)) ggX1_isBalanced_X1_inLinksTo
set_option maxRecDepth 20000 in
theorem ggX1_isBalanced_X1_inLettersAbout : GoodIn wsX1_isBalanced wsX1_inLettersAbout := goodIn_r _ [30, 31, 32, 33, 34, 6, 35, 36, 37, 38, 39, 40, 41, 9, 10, 11, 12, 13, 14, 42, 43, 44, 45, 46, 47, 48, 49, 50, 51, 52, 53, 54, 55] (by decide +kernel) (by decide +kernel)
set_option maxRecDepth 20000 in
theorem gX1_isBalanced_X1_inLettersAbout : GoodIn wsX1_isBalanced (wsV RX1 158 RX1 yX1_inLettersAbout wsX1_inLettersAbout) := goodIn_app (goodIn_of _ (by decide +kernel)) ggX1_isBalanced_X1_inLettersAbout
theorem dX1_isBalanced_0 : decode cX1_isBalanced 0 = .ok (.iconst 0, 1) := by decide +kernel
theorem dX1_isBalanced_1 : decode cX1_isBalanced 1 = .ok (.istore_n 1, 1) := by decide +kernel
theorem dX1_isBalanced_2 : decode cX1_isBalanced 2 = .ok (.iload_n 1, 1) := by decide +kernel
theorem dX1_isBalanced_3 : decode cX1_isBalanced 3 = .ok (.aload_n 0, 1) := by decide +kernel
theorem dX1_isBalanced_4 : decode cX1_isBalanced 4 = .ok (.getfield 35, 3) := by decide +kernel
theorem dX1_isBalanced_7 : decode cX1_isBalanced 7 = .ok (.if_icmp .ge 40, 3) := by decide +kernel
theorem dX1_isBalanced_10 : decode cX1_isBalanced 10 = .ok (.aload_n 0, 1) := by decide +kernel
theorem dX1_isBalanced_11 : decode cX1_isBalanced 11 = .ok (.iload_n 1, 1) := by decide +kernel
theorem dX1_isBalanced_12 : decode cX1_isBalanced 12 = .ok (.invokevirtual 65, 3) := by decide +kernel
theorem dX1_isBalanced_15 : decode cX1_isBalanced 15 = .ok (.ifCond .eq 26, 3) := by decide +kernel
theorem dX1_isBalanced_18 : decode cX1_isBalanced 18 = .ok (.aload_n 0, 1) := by decide +kernel
theorem dX1_isBalanced_19 : decode cX1_isBalanced 19 = .ok (.getfield 13, 3) := by decide +kernel
theorem dX1_isBalanced_22 : decode cX1_isBalanced 22 = .ok (.iload_n 1, 1) := by decide +kernel
theorem dX1_isBalanced_23 : decode cX1_isBalanced 23 = .ok (.iaload, 1) := by decide +kernel
theorem dX1_isBalanced_24 : decode cX1_isBalanced 24 = .ok (.aload_n 0, 1) := by decide +kernel
theorem dX1_isBalanced_25 : decode cX1_isBalanced 25 = .ok (.iload_n 1, 1) := by decide +kernel
theorem dX1_isBalanced_26 : decode cX1_isBalanced 26 = .ok (.invokevirtual 155, 3) := by decide +kernel
theorem dX1_isBalanced_29 : decode cX1_isBalanced 29 = .ok (.aload_n 0, 1) := by decide +kernel
theorem dX1_isBalanced_30 : decode cX1_isBalanced 30 = .ok (.iload_n 1, 1) := by decide +kernel
theorem dX1_isBalanced_31 : decode cX1_isBalanced 31 = .ok (.iconst 1, 1) := by decide +kernel
theorem dX1_isBalanced_32 : decode cX1_isBalanced 32 = .ok (.invokevirtual 158, 3) := by decide +kernel
theorem dX1_isBalanced_35 : decode cX1_isBalanced 35 = .ok (.iadd, 1) := by decide +kernel
theorem dX1_isBalanced_36 : decode cX1_isBalanced 36 = .ok (.if_icmp .eq 5, 3) := by decide +kernel
theorem dX1_isBalanced_39 : decode cX1_isBalanced 39 = .ok (.iconst 0, 1) := by decide +kernel
theorem dX1_isBalanced_40 : decode cX1_isBalanced 40 = .ok (.ireturn, 1) := by decide +kernel
theorem dX1_isBalanced_41 : decode cX1_isBalanced 41 = .ok (.iinc 1 1, 3) := by decide +kernel
theorem dX1_isBalanced_44 : decode cX1_isBalanced 44 = .ok (.goto (-42), 3) := by decide +kernel
theorem dX1_isBalanced_47 : decode cX1_isBalanced 47 = .ok (.iconst 1, 1) := by decide +kernel
theorem dX1_isBalanced_48 : decode cX1_isBalanced 48 = .ok (.ireturn, 1) := by decide +kernel
set_option maxRecDepth 20000 in
theorem ggX1_oneStepOn_X1_isIn : GoodIn wsX1_oneStepOn wsX1_isIn := goodIn_r _ [7, 8, 9, 6, 10] (by decide +kernel) (by decide +kernel)
set_option maxRecDepth 20000 in
theorem gX1_oneStepOn_X1_isIn : GoodIn wsX1_oneStepOn (va_wsS RX1 68 yX1_isIn wsX1_isIn) := goodIn_app (goodIn_of _ (by decide +kernel)) ggX1_oneStepOn_X1_isIn
set_option maxRecDepth 20000 in
theorem ggX1_oneStepOn_X1_linkedFrom : GoodIn wsX1_oneStepOn wsX1_linkedFrom := goodIn_r _ [14, 1, 15, 16, 17, 6, 18, 19, 20, 21, 22, 8, 9, 10, 29, 30, 31, 32, 33, 34, 35, 36, 37, 38] (by decide +kernel) (by decide +kernel)
set_option maxRecDepth 20000 in
theorem gX1_oneStepOn_X1_linkedFrom : GoodIn wsX1_oneStepOn (wsV RX1 93 RX1 yX1_linkedFrom wsX1_linkedFrom) := goodIn_app (goodIn_of _ (by decide +kernel)) ggX1_oneStepOn_X1_linkedFrom
set_option maxRecDepth 20000 in
theorem ggX1_oneStepOn_X0_kind : GoodIn wsX1_oneStepOn wsX0_kind := goodIn_r _ [27, 28, 39, 40, 41, 42] (by decide +kernel) (by decide +kernel)
set_option maxRecDepth 20000 in
theorem gX1_oneStepOn_X0_kind : GoodIn wsX1_oneStepOn (wsV RX1 115 RX0 yX0_kind wsX0_kind) := goodIn_app (goodIn_of _ (by decide +kernel)) ggX1_oneStepOn_X0_kind
set_option maxRecDepth 20000 in
theorem ggX1_oneStepOn_X1_bit : GoodIn wsX1_oneStepOn wsX1_bit := goodIn_r _ [10] (by decide +kernel) (by decide +kernel)
set_option maxRecDepth 20000 in
theorem gX1_oneStepOn_X1_bit : GoodIn wsX1_oneStepOn (va_wsS RX1 58 yX1_bit wsX1_bit) := goodIn_app (goodIn_of _ (by decide +kernel)) ggX1_oneStepOn_X1_bit
theorem dX1_oneStepOn_0 : decode cX1_oneStepOn 0 = .ok (.iload_n 1, 1) := by decide +kernel
theorem dX1_oneStepOn_1 : decode cX1_oneStepOn 1 = .ok (.istore_n 2, 1) := by decide +kernel
theorem dX1_oneStepOn_2 : decode cX1_oneStepOn 2 = .ok (.iconst 0, 1) := by decide +kernel
theorem dX1_oneStepOn_3 : decode cX1_oneStepOn 3 = .ok (.istore_n 3, 1) := by decide +kernel
theorem dX1_oneStepOn_4 : decode cX1_oneStepOn 4 = .ok (.iload_n 3, 1) := by decide +kernel
theorem dX1_oneStepOn_5 : decode cX1_oneStepOn 5 = .ok (.aload_n 0, 1) := by decide +kernel
theorem dX1_oneStepOn_6 : decode cX1_oneStepOn 6 = .ok (.getfield 35, 3) := by decide +kernel
theorem dX1_oneStepOn_9 : decode cX1_oneStepOn 9 = .ok (.if_icmp .ge 25, 3) := by decide +kernel
theorem dX1_oneStepOn_12 : decode cX1_oneStepOn 12 = .ok (.iload_n 1, 1) := by decide +kernel
theorem dX1_oneStepOn_13 : decode cX1_oneStepOn 13 = .ok (.iload_n 3, 1) := by decide +kernel
theorem dX1_oneStepOn_14 : decode cX1_oneStepOn 14 = .ok (.invokestatic 68, 3) := by decide +kernel
theorem dX1_oneStepOn_17 : decode cX1_oneStepOn 17 = .ok (.ifCond .eq 11, 3) := by decide +kernel
theorem dX1_oneStepOn_20 : decode cX1_oneStepOn 20 = .ok (.iload_n 2, 1) := by decide +kernel
theorem dX1_oneStepOn_21 : decode cX1_oneStepOn 21 = .ok (.aload_n 0, 1) := by decide +kernel
theorem dX1_oneStepOn_22 : decode cX1_oneStepOn 22 = .ok (.iload_n 3, 1) := by decide +kernel
theorem dX1_oneStepOn_23 : decode cX1_oneStepOn 23 = .ok (.invokevirtual 93, 3) := by decide +kernel
theorem dX1_oneStepOn_26 : decode cX1_oneStepOn 26 = .ok (.ior, 1) := by decide +kernel
theorem dX1_oneStepOn_27 : decode cX1_oneStepOn 27 = .ok (.istore_n 2, 1) := by decide +kernel
theorem dX1_oneStepOn_28 : decode cX1_oneStepOn 28 = .ok (.iinc 3 1, 3) := by decide +kernel
theorem dX1_oneStepOn_31 : decode cX1_oneStepOn 31 = .ok (.goto (-27), 3) := by decide +kernel
theorem dX1_oneStepOn_34 : decode cX1_oneStepOn 34 = .ok (.iconst 0, 1) := by decide +kernel
theorem dX1_oneStepOn_35 : decode cX1_oneStepOn 35 = .ok (.istore_n 3, 1) := by decide +kernel
theorem dX1_oneStepOn_36 : decode cX1_oneStepOn 36 = .ok (.iload_n 3, 1) := by decide +kernel
theorem dX1_oneStepOn_37 : decode cX1_oneStepOn 37 = .ok (.aload_n 0, 1) := by decide +kernel
theorem dX1_oneStepOn_38 : decode cX1_oneStepOn 38 = .ok (.getfield 31, 3) := by decide +kernel
theorem dX1_oneStepOn_41 : decode cX1_oneStepOn 41 = .ok (.getfield 86, 3) := by decide +kernel
theorem dX1_oneStepOn_44 : decode cX1_oneStepOn 44 = .ok (.if_icmp .ge 51, 3) := by decide +kernel
theorem dX1_oneStepOn_47 : decode cX1_oneStepOn 47 = .ok (.aload_n 0, 1) := by decide +kernel
theorem dX1_oneStepOn_48 : decode cX1_oneStepOn 48 = .ok (.getfield 31, 3) := by decide +kernel
theorem dX1_oneStepOn_51 : decode cX1_oneStepOn 51 = .ok (.iload_n 3, 1) := by decide +kernel
theorem dX1_oneStepOn_52 : decode cX1_oneStepOn 52 = .ok (.invokevirtual 115, 3) := by decide +kernel
theorem dX1_oneStepOn_55 : decode cX1_oneStepOn 55 = .ok (.ifCond .ne 34, 3) := by decide +kernel
theorem dX1_oneStepOn_58 : decode cX1_oneStepOn 58 = .ok (.iload_n 1, 1) := by decide +kernel
theorem dX1_oneStepOn_59 : decode cX1_oneStepOn 59 = .ok (.aload_n 0, 1) := by decide +kernel
theorem dX1_oneStepOn_60 : decode cX1_oneStepOn 60 = .ok (.getfield 31, 3) := by decide +kernel
theorem dX1_oneStepOn_63 : decode cX1_oneStepOn 63 = .ok (.getfield 127, 3) := by decide +kernel
theorem dX1_oneStepOn_66 : decode cX1_oneStepOn 66 = .ok (.iload_n 3, 1) := by decide +kernel
theorem dX1_oneStepOn_67 : decode cX1_oneStepOn 67 = .ok (.iaload, 1) := by decide +kernel
theorem dX1_oneStepOn_68 : decode cX1_oneStepOn 68 = .ok (.invokestatic 68, 3) := by decide +kernel
theorem dX1_oneStepOn_71 : decode cX1_oneStepOn 71 = .ok (.ifCond .eq 18, 3) := by decide +kernel
theorem dX1_oneStepOn_74 : decode cX1_oneStepOn 74 = .ok (.iload_n 2, 1) := by decide +kernel
theorem dX1_oneStepOn_75 : decode cX1_oneStepOn 75 = .ok (.aload_n 0, 1) := by decide +kernel
theorem dX1_oneStepOn_76 : decode cX1_oneStepOn 76 = .ok (.getfield 31, 3) := by decide +kernel
theorem dX1_oneStepOn_79 : decode cX1_oneStepOn 79 = .ok (.getfield 124, 3) := by decide +kernel
theorem dX1_oneStepOn_82 : decode cX1_oneStepOn 82 = .ok (.iload_n 3, 1) := by decide +kernel
theorem dX1_oneStepOn_83 : decode cX1_oneStepOn 83 = .ok (.iaload, 1) := by decide +kernel
theorem dX1_oneStepOn_84 : decode cX1_oneStepOn 84 = .ok (.invokestatic 58, 3) := by decide +kernel
theorem dX1_oneStepOn_87 : decode cX1_oneStepOn 87 = .ok (.ior, 1) := by decide +kernel
theorem dX1_oneStepOn_88 : decode cX1_oneStepOn 88 = .ok (.istore_n 2, 1) := by decide +kernel
theorem dX1_oneStepOn_89 : decode cX1_oneStepOn 89 = .ok (.iinc 3 1, 3) := by decide +kernel
theorem dX1_oneStepOn_92 : decode cX1_oneStepOn 92 = .ok (.goto (-56), 3) := by decide +kernel
theorem dX1_oneStepOn_95 : decode cX1_oneStepOn 95 = .ok (.iload_n 2, 1) := by decide +kernel
theorem dX1_oneStepOn_96 : decode cX1_oneStepOn 96 = .ok (.aload_n 0, 1) := by decide +kernel
theorem dX1_oneStepOn_97 : decode cX1_oneStepOn 97 = .ok (.getfield 39, 3) := by decide +kernel
theorem dX1_oneStepOn_100 : decode cX1_oneStepOn 100 = .ok (.iand, 1) := by decide +kernel
theorem dX1_oneStepOn_101 : decode cX1_oneStepOn 101 = .ok (.ireturn, 1) := by decide +kernel
