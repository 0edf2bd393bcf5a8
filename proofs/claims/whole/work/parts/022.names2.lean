theorem dX2_init_0 : decode cX2_init 0 = .ok (.aload_n 0, 1) := by decide +kernel
theorem dX2_init_1 : decode cX2_init 1 = .ok (.invokespecial 1, 3) := by decide +kernel
theorem dX2_init_4 : decode cX2_init 4 = .ok (.aload_n 0, 1) := by decide +kernel
theorem dX2_init_5 : decode cX2_init 5 = .ok (.bipush 10, 2) := by decide +kernel
theorem dX2_init_7 : decode cX2_init 7 = .ok (.newarray .int, 2) := by decide +kernel
theorem dX2_init_9 : decode cX2_init 9 = .ok (.putfield 7, 3) := by decide +kernel
theorem dX2_init_12 : decode cX2_init 12 = .ok (.aload_n 0, 1) := by decide +kernel
theorem dX2_init_13 : decode cX2_init 13 = .ok (.bipush 10, 2) := by decide +kernel
theorem dX2_init_15 : decode cX2_init 15 = .ok (.newarray .boolean, 2) := by decide +kernel
theorem dX2_init_17 : decode cX2_init 17 = .ok (.putfield 13, 3) := by decide +kernel
theorem dX2_init_20 : decode cX2_init 20 = .ok (.aload_n 0, 1) := by decide +kernel
theorem dX2_init_21 : decode cX2_init 21 = .ok (.bipush 10, 2) := by decide +kernel
theorem dX2_init_23 : decode cX2_init 23 = .ok (.newarray .int, 2) := by decide +kernel
theorem dX2_init_25 : decode cX2_init 25 = .ok (.putfield 17, 3) := by decide +kernel
theorem dX2_init_28 : decode cX2_init 28 = .ok (.aload_n 0, 1) := by decide +kernel
theorem dX2_init_29 : decode cX2_init 29 = .ok (.bipush 10, 2) := by decide +kernel
theorem dX2_init_31 : decode cX2_init 31 = .ok (.newarray .int, 2) := by decide +kernel
theorem dX2_init_33 : decode cX2_init 33 = .ok (.putfield 20, 3) := by decide +kernel
theorem dX2_init_36 : decode cX2_init 36 = .ok (.aload_n 0, 1) := by decide +kernel
theorem dX2_init_37 : decode cX2_init 37 = .ok (.bipush 100, 2) := by decide +kernel
theorem dX2_init_39 : decode cX2_init 39 = .ok (.newarray .int, 2) := by decide +kernel
theorem dX2_init_41 : decode cX2_init 41 = .ok (.putfield 23, 3) := by decide +kernel
theorem dX2_init_44 : decode cX2_init 44 = .ok (.aload_n 0, 1) := by decide +kernel
theorem dX2_init_45 : decode cX2_init 45 = .ok (.sipush 512, 3) := by decide +kernel
theorem dX2_init_48 : decode cX2_init 48 = .ok (.newarray .int, 2) := by decide +kernel
theorem dX2_init_50 : decode cX2_init 50 = .ok (.putfield 26, 3) := by decide +kernel
theorem dX2_init_53 : decode cX2_init 53 = .ok (.aload_n 0, 1) := by decide +kernel
theorem dX2_init_54 : decode cX2_init 54 = .ok (.sipush 512, 3) := by decide +kernel
theorem dX2_init_57 : decode cX2_init 57 = .ok (.newarray .int, 2) := by decide +kernel
theorem dX2_init_59 : decode cX2_init 59 = .ok (.putfield 29, 3) := by decide +kernel
theorem dX2_init_62 : decode cX2_init 62 = .ok (.aload_n 0, 1) := by decide +kernel
theorem dX2_init_63 : decode cX2_init 63 = .ok (.sipush 512, 3) := by decide +kernel
theorem dX2_init_66 : decode cX2_init 66 = .ok (.newarray .int, 2) := by decide +kernel
theorem dX2_init_68 : decode cX2_init 68 = .ok (.putfield 32, 3) := by decide +kernel
theorem dX2_init_71 : decode cX2_init 71 = .ok (.iconst 0, 1) := by decide +kernel
theorem dX2_init_72 : decode cX2_init 72 = .ok (.istore_n 1, 1) := by decide +kernel
theorem dX2_init_73 : decode cX2_init 73 = .ok (.iload_n 1, 1) := by decide +kernel
theorem dX2_init_74 : decode cX2_init 74 = .ok (.bipush 100, 2) := by decide +kernel
theorem dX2_init_76 : decode cX2_init 76 = .ok (.if_icmp .ge 17, 3) := by decide +kernel
theorem dX2_init_79 : decode cX2_init 79 = .ok (.aload_n 0, 1) := by decide +kernel
theorem dX2_init_80 : decode cX2_init 80 = .ok (.getfield 23, 3) := by decide +kernel
theorem dX2_init_83 : decode cX2_init 83 = .ok (.iload_n 1, 1) := by decide +kernel
theorem dX2_init_84 : decode cX2_init 84 = .ok (.bipush (-9), 2) := by decide +kernel
theorem dX2_init_86 : decode cX2_init 86 = .ok (.iastore, 1) := by decide +kernel
theorem dX2_init_87 : decode cX2_init 87 = .ok (.iinc 1 1, 3) := by decide +kernel
theorem dX2_init_90 : decode cX2_init 90 = .ok (.goto (-17), 3) := by decide +kernel
theorem dX2_init_93 : decode cX2_init 93 = .ok (.return_, 1) := by decide +kernel
theorem dX2_within_0 : decode cX2_within 0 = .ok (.iload_n 0, 1) := by decide +kernel
theorem dX2_within_1 : decode cX2_within 1 = .ok (.iload_n 1, 1) := by decide +kernel
theorem dX2_within_2 : decode cX2_within 2 = .ok (.if_icmp .lt 12, 3) := by decide +kernel
theorem dX2_within_5 : decode cX2_within 5 = .ok (.iload_n 0, 1) := by decide +kernel
theorem dX2_within_6 : decode cX2_within 6 = .ok (.iload_n 2, 1) := by decide +kernel
theorem dX2_within_7 : decode cX2_within 7 = .ok (.if_icmp .gt 7, 3) := by decide +kernel
theorem dX2_within_10 : decode cX2_within 10 = .ok (.iconst 1, 1) := by decide +kernel
theorem dX2_within_11 : decode cX2_within 11 = .ok (.goto 4, 3) := by decide +kernel
theorem dX2_within_14 : decode cX2_within 14 = .ok (.iconst 0, 1) := by decide +kernel
theorem dX2_within_15 : decode cX2_within 15 = .ok (.ireturn, 1) := by decide +kernel
theorem dX2_has_0 : decode cX2_has 0 = .ok (.iload_n 0, 1) := by decide +kernel
theorem dX2_has_1 : decode cX2_has 1 = .ok (.iload_n 1, 1) := by decide +kernel
theorem dX2_has_2 : decode cX2_has 2 = .ok (.ishr, 1) := by decide +kernel
theorem dX2_has_3 : decode cX2_has 3 = .ok (.iconst 1, 1) := by decide +kernel
theorem dX2_has_4 : decode cX2_has 4 = .ok (.iand, 1) := by decide +kernel
theorem dX2_has_5 : decode cX2_has 5 = .ok (.iconst 1, 1) := by decide +kernel
theorem dX2_has_6 : decode cX2_has 6 = .ok (.if_icmp .ne 7, 3) := by decide +kernel
theorem dX2_has_9 : decode cX2_has 9 = .ok (.iconst 1, 1) := by decide +kernel
theorem dX2_has_10 : decode cX2_has 10 = .ok (.goto 4, 3) := by decide +kernel
theorem dX2_has_13 : decode cX2_has 13 = .ok (.iconst 0, 1) := by decide +kernel
theorem dX2_has_14 : decode cX2_has 14 = .ok (.ireturn, 1) := by decide +kernel
theorem dX2_sizeOf_0 : decode cX2_sizeOf 0 = .ok (.iconst 0, 1) := by decide +kernel
theorem dX2_sizeOf_1 : decode cX2_sizeOf 1 = .ok (.istore_n 1, 1) := by decide +kernel
theorem dX2_sizeOf_2 : decode cX2_sizeOf 2 = .ok (.iload_n 0, 1) := by decide +kernel
theorem dX2_sizeOf_3 : decode cX2_sizeOf 3 = .ok (.istore_n 2, 1) := by decide +kernel
theorem dX2_sizeOf_4 : decode cX2_sizeOf 4 = .ok (.iload_n 2, 1) := by decide +kernel
theorem dX2_sizeOf_5 : decode cX2_sizeOf 5 = .ok (.ifCond .le 16, 3) := by decide +kernel
theorem dX2_sizeOf_8 : decode cX2_sizeOf 8 = .ok (.iload_n 1, 1) := by decide +kernel
theorem dX2_sizeOf_9 : decode cX2_sizeOf 9 = .ok (.iload_n 2, 1) := by decide +kernel
theorem dX2_sizeOf_10 : decode cX2_sizeOf 10 = .ok (.iconst 1, 1) := by decide +kernel
theorem dX2_sizeOf_11 : decode cX2_sizeOf 11 = .ok (.iand, 1) := by decide +kernel
theorem dX2_sizeOf_12 : decode cX2_sizeOf 12 = .ok (.iadd, 1) := by decide +kernel
theorem dX2_sizeOf_13 : decode cX2_sizeOf 13 = .ok (.istore_n 1, 1) := by decide +kernel
theorem dX2_sizeOf_14 : decode cX2_sizeOf 14 = .ok (.iload_n 2, 1) := by decide +kernel
theorem dX2_sizeOf_15 : decode cX2_sizeOf 15 = .ok (.iconst 1, 1) := by decide +kernel
theorem dX2_sizeOf_16 : decode cX2_sizeOf 16 = .ok (.ishr, 1) := by decide +kernel
theorem dX2_sizeOf_17 : decode cX2_sizeOf 17 = .ok (.istore_n 2, 1) := by decide +kernel
theorem dX2_sizeOf_18 : decode cX2_sizeOf 18 = .ok (.goto (-14), 3) := by decide +kernel
theorem dX2_sizeOf_21 : decode cX2_sizeOf 21 = .ok (.iload_n 1, 1) := by decide +kernel
theorem dX2_sizeOf_22 : decode cX2_sizeOf 22 = .ok (.ireturn, 1) := by decide +kernel
set_option maxRecDepth 20000 in
theorem ggX2_isHost_X2_within : GoodIn wsX2_isHost wsX2_within := goodIn_r _ [4] (by decide +kernel) (by decide +kernel)
set_option maxRecDepth 20000 in
theorem gX2_isHost_X2_within : GoodIn wsX2_isHost (va_wsS RX2 35 yX2_within wsX2_within) := goodIn_app (goodIn_of _ (by decide +kernel)) ggX2_isHost_X2_within
theorem dX2_isHost_0 : decode cX2_isHost 0 = .ok (.iload_n 0, 1) := by decide +kernel
theorem dX2_isHost_1 : decode cX2_isHost 1 = .ok (.iconst 0, 1) := by decide +kernel
theorem dX2_isHost_2 : decode cX2_isHost 2 = .ok (.iconst 3, 1) := by decide +kernel
theorem dX2_isHost_3 : decode cX2_isHost 3 = .ok (.invokestatic 35, 3) := by decide +kernel
theorem dX2_isHost_6 : decode cX2_isHost 6 = .ok (.ireturn, 1) := by decide +kernel
set_option maxRecDepth 20000 in
theorem ggX2_isObject_X2_within : GoodIn wsX2_isObject wsX2_within := goodIn_r _ [5] (by decide +kernel) (by decide +kernel)
set_option maxRecDepth 20000 in
theorem gX2_isObject_X2_within : GoodIn wsX2_isObject (va_wsS RX2 35 yX2_within wsX2_within) := goodIn_app (goodIn_of _ (by decide +kernel)) ggX2_isObject_X2_within
theorem dX2_isObject_0 : decode cX2_isObject 0 = .ok (.iload_n 1, 1) := by decide +kernel
theorem dX2_isObject_1 : decode cX2_isObject 1 = .ok (.iconst 0, 1) := by decide +kernel
theorem dX2_isObject_2 : decode cX2_isObject 2 = .ok (.aload_n 0, 1) := by decide +kernel
theorem dX2_isObject_3 : decode cX2_isObject 3 = .ok (.getfield 39, 3) := by decide +kernel
theorem dX2_isObject_6 : decode cX2_isObject 6 = .ok (.iconst 1, 1) := by decide +kernel
theorem dX2_isObject_7 : decode cX2_isObject 7 = .ok (.isub, 1) := by decide +kernel
theorem dX2_isObject_8 : decode cX2_isObject 8 = .ok (.invokestatic 35, 3) := by decide +kernel
theorem dX2_isObject_11 : decode cX2_isObject 11 = .ok (.ireturn, 1) := by decide +kernel
theorem dX2_linkFrom_0 : decode cX2_linkFrom 0 = .ok (.aload_n 0, 1) := by decide +kernel
theorem dX2_linkFrom_1 : decode cX2_linkFrom 1 = .ok (.getfield 23, 3) := by decide +kernel
theorem dX2_linkFrom_4 : decode cX2_linkFrom 4 = .ok (.bipush 10, 2) := by decide +kernel
theorem dX2_linkFrom_6 : decode cX2_linkFrom 6 = .ok (.iload_n 1, 1) := by decide +kernel
theorem dX2_linkFrom_7 : decode cX2_linkFrom 7 = .ok (.imul, 1) := by decide +kernel
theorem dX2_linkFrom_8 : decode cX2_linkFrom 8 = .ok (.iload_n 2, 1) := by decide +kernel
theorem dX2_linkFrom_9 : decode cX2_linkFrom 9 = .ok (.iadd, 1) := by decide +kernel
theorem dX2_linkFrom_10 : decode cX2_linkFrom 10 = .ok (.iaload, 1) := by decide +kernel
theorem dX2_linkFrom_11 : decode cX2_linkFrom 11 = .ok (.ireturn, 1) := by decide +kernel
set_option maxRecDepth 20000 in
theorem ggX2_isLink_X2_linkFrom : GoodIn wsX2_isLink wsX2_linkFrom := goodIn_r _ [5, 6, 7, 8, 9, 10, 11, 12, 13, 14, 15, 16, 17, 18, 19] (by decide +kernel) (by decide +kernel)
set_option maxRecDepth 20000 in
theorem gX2_isLink_X2_linkFrom : GoodIn wsX2_isLink (wsV RX2 43 RX2 yX2_linkFrom wsX2_linkFrom) := goodIn_app (goodIn_of _ (by decide +kernel)) ggX2_isLink_X2_linkFrom
theorem dX2_isLink_0 : decode cX2_isLink 0 = .ok (.aload_n 0, 1) := by decide +kernel
theorem dX2_isLink_1 : decode cX2_isLink 1 = .ok (.iload_n 1, 1) := by decide +kernel
theorem dX2_isLink_2 : decode cX2_isLink 2 = .ok (.iload_n 2, 1) := by decide +kernel
theorem dX2_isLink_3 : decode cX2_isLink 3 = .ok (.invokevirtual 43, 3) := by decide +kernel
theorem dX2_isLink_6 : decode cX2_isLink 6 = .ok (.bipush (-9), 2) := by decide +kernel
theorem dX2_isLink_8 : decode cX2_isLink 8 = .ok (.if_icmp .eq 7, 3) := by decide +kernel
theorem dX2_isLink_11 : decode cX2_isLink 11 = .ok (.iconst 1, 1) := by decide +kernel
theorem dX2_isLink_12 : decode cX2_isLink 12 = .ok (.goto 4, 3) := by decide +kernel
theorem dX2_isLink_15 : decode cX2_isLink 15 = .ok (.iconst 0, 1) := by decide +kernel
theorem dX2_isLink_16 : decode cX2_isLink 16 = .ok (.ireturn, 1) := by decide +kernel
theorem dX2_areNeighbours_0 : decode cX2_areNeighbours 0 = .ok (.aload_n 0, 1) := by decide +kernel
theorem dX2_areNeighbours_1 : decode cX2_areNeighbours 1 = .ok (.getfield 7, 3) := by decide +kernel
theorem dX2_areNeighbours_4 : decode cX2_areNeighbours 4 = .ok (.iload_n 1, 1) := by decide +kernel
theorem dX2_areNeighbours_5 : decode cX2_areNeighbours 5 = .ok (.iaload, 1) := by decide +kernel
theorem dX2_areNeighbours_6 : decode cX2_areNeighbours 6 = .ok (.aload_n 0, 1) := by decide +kernel
theorem dX2_areNeighbours_7 : decode cX2_areNeighbours 7 = .ok (.getfield 7, 3) := by decide +kernel
theorem dX2_areNeighbours_10 : decode cX2_areNeighbours 10 = .ok (.iload_n 2, 1) := by decide +kernel
theorem dX2_areNeighbours_11 : decode cX2_areNeighbours 11 = .ok (.iaload, 1) := by decide +kernel
theorem dX2_areNeighbours_12 : decode cX2_areNeighbours 12 = .ok (.if_icmp .ne 7, 3) := by decide +kernel
theorem dX2_areNeighbours_15 : decode cX2_areNeighbours 15 = .ok (.iconst 1, 1) := by decide +kernel
theorem dX2_areNeighbours_16 : decode cX2_areNeighbours 16 = .ok (.goto 4, 3) := by decide +kernel
theorem dX2_areNeighbours_19 : decode cX2_areNeighbours 19 = .ok (.iconst 0, 1) := by decide +kernel
theorem dX2_areNeighbours_20 : decode cX2_areNeighbours 20 = .ok (.ireturn, 1) := by decide +kernel
set_option maxRecDepth 20000 in
theorem ggX2_object_X2_isHost : GoodIn wsX2_object wsX2_isHost := goodIn_r _ [8, 9, 10, 7, 11] (by decide +kernel) (by decide +kernel)
set_option maxRecDepth 20000 in
theorem gX2_object_X2_isHost : GoodIn wsX2_object (va_wsS RX2 47 yX2_isHost wsX2_isHost) := goodIn_app (goodIn_of _ (by decide +kernel)) ggX2_object_X2_isHost
set_option maxRecDepth 20000 in
theorem ggX2_object_X2_has : GoodIn wsX2_object wsX2_has := goodIn_r _ [14] (by decide +kernel) (by decide +kernel)
set_option maxRecDepth 20000 in
theorem gX2_object_X2_has : GoodIn wsX2_object (va_wsS RX2 54 yX2_has wsX2_has) := goodIn_app (goodIn_of _ (by decide +kernel)) ggX2_object_X2_has
theorem dX2_object_0 : decode cX2_object 0 = .ok (.iload_n 1, 1) := by decide +kernel
theorem dX2_object_1 : decode cX2_object 1 = .ok (.invokestatic 47, 3) := by decide +kernel
theorem dX2_object_4 : decode cX2_object 4 = .ok (.ifCond .ne 5, 3) := by decide +kernel
theorem dX2_object_7 : decode cX2_object 7 = .ok (.iconst (-1), 1) := by decide +kernel
theorem dX2_object_8 : decode cX2_object 8 = .ok (.ireturn, 1) := by decide +kernel
theorem dX2_object_9 : decode cX2_object 9 = .ok (.aload_n 0, 1) := by decide +kernel
theorem dX2_object_10 : decode cX2_object 10 = .ok (.getfield 51, 3) := by decide +kernel
theorem dX2_object_13 : decode cX2_object 13 = .ok (.iload_n 1, 1) := by decide +kernel
theorem dX2_object_14 : decode cX2_object 14 = .ok (.invokestatic 54, 3) := by decide +kernel
theorem dX2_object_17 : decode cX2_object 17 = .ok (.ifCond .eq 6, 3) := by decide +kernel
theorem dX2_object_20 : decode cX2_object 20 = .ok (.bipush (-3), 2) := by decide +kernel
theorem dX2_object_22 : decode cX2_object 22 = .ok (.ireturn, 1) := by decide +kernel
theorem dX2_object_23 : decode cX2_object 23 = .ok (.aload_n 0, 1) := by decide +kernel
theorem dX2_object_24 : decode cX2_object 24 = .ok (.getfield 39, 3) := by decide +kernel
theorem dX2_object_27 : decode cX2_object 27 = .ok (.bipush 10, 2) := by decide +kernel
theorem dX2_object_29 : decode cX2_object 29 = .ok (.if_icmp .ne 6, 3) := by decide +kernel
theorem dX2_object_32 : decode cX2_object 32 = .ok (.bipush (-4), 2) := by decide +kernel
theorem dX2_object_34 : decode cX2_object 34 = .ok (.ireturn, 1) := by decide +kernel
theorem dX2_object_35 : decode cX2_object 35 = .ok (.aload_n 0, 1) := by decide +kernel
theorem dX2_object_36 : decode cX2_object 36 = .ok (.getfield 7, 3) := by decide +kernel
theorem dX2_object_39 : decode cX2_object 39 = .ok (.aload_n 0, 1) := by decide +kernel
theorem dX2_object_40 : decode cX2_object 40 = .ok (.getfield 39, 3) := by decide +kernel
theorem dX2_object_43 : decode cX2_object 43 = .ok (.iload_n 1, 1) := by decide +kernel
theorem dX2_object_44 : decode cX2_object 44 = .ok (.iastore, 1) := by decide +kernel
theorem dX2_object_45 : decode cX2_object 45 = .ok (.aload_n 0, 1) := by decide +kernel
theorem dX2_object_46 : decode cX2_object 46 = .ok (.getfield 13, 3) := by decide +kernel
theorem dX2_object_49 : decode cX2_object 49 = .ok (.aload_n 0, 1) := by decide +kernel
theorem dX2_object_50 : decode cX2_object 50 = .ok (.getfield 39, 3) := by decide +kernel
theorem dX2_object_53 : decode cX2_object 53 = .ok (.iload_n 2, 1) := by decide +kernel
theorem dX2_object_54 : decode cX2_object 54 = .ok (.bastore, 1) := by decide +kernel
theorem dX2_object_55 : decode cX2_object 55 = .ok (.aload_n 0, 1) := by decide +kernel
theorem dX2_object_56 : decode cX2_object 56 = .ok (.dup, 1) := by decide +kernel
theorem dX2_object_57 : decode cX2_object 57 = .ok (.getfield 39, 3) := by decide +kernel
theorem dX2_object_60 : decode cX2_object 60 = .ok (.iconst 1, 1) := by decide +kernel
theorem dX2_object_61 : decode cX2_object 61 = .ok (.iadd, 1) := by decide +kernel
theorem dX2_object_62 : decode cX2_object 62 = .ok (.putfield 39, 3) := by decide +kernel
theorem dX2_object_65 : decode cX2_object 65 = .ok (.aload_n 0, 1) := by decide +kernel
theorem dX2_object_66 : decode cX2_object 66 = .ok (.getfield 39, 3) := by decide +kernel
theorem dX2_object_69 : decode cX2_object 69 = .ok (.iconst 1, 1) := by decide +kernel
theorem dX2_object_70 : decode cX2_object 70 = .ok (.isub, 1) := by decide +kernel
theorem dX2_object_71 : decode cX2_object 71 = .ok (.ireturn, 1) := by decide +kernel
set_option maxRecDepth 20000 in
theorem ggX2_root_X2_isObject : GoodIn wsX2_root wsX2_isObject := goodIn_r _ [7, 8, 9, 10, 6, 11, 15, 16, 17, 18, 19, 20, 21, 22, 23, 24, 25, 26, 27] (by decide +kernel) (by decide +kernel)
set_option maxRecDepth 20000 in
theorem gX2_root_X2_isObject : GoodIn wsX2_root (wsV RX2 58 RX2 yX2_isObject wsX2_isObject) := goodIn_app (goodIn_of _ (by decide +kernel)) ggX2_root_X2_isObject
set_option maxRecDepth 20000 in
theorem ggX2_root_X2_has : GoodIn wsX2_root wsX2_has := goodIn_r _ [14] (by decide +kernel) (by decide +kernel)
set_option maxRecDepth 20000 in
theorem gX2_root_X2_has : GoodIn wsX2_root (va_wsS RX2 54 yX2_has wsX2_has) := goodIn_app (goodIn_of _ (by decide +kernel)) ggX2_root_X2_has
theorem dX2_root_0 : decode cX2_root 0 = .ok (.aload_n 0, 1) := by decide +kernel
theorem dX2_root_1 : decode cX2_root 1 = .ok (.iload_n 1, 1) := by decide +kernel
theorem dX2_root_2 : decode cX2_root 2 = .ok (.invokevirtual 58, 3) := by decide +kernel
theorem dX2_root_5 : decode cX2_root 5 = .ok (.ifCond .ne 5, 3) := by decide +kernel
theorem dX2_root_8 : decode cX2_root 8 = .ok (.iconst (-1), 1) := by decide +kernel
theorem dX2_root_9 : decode cX2_root 9 = .ok (.ireturn, 1) := by decide +kernel
theorem dX2_root_10 : decode cX2_root 10 = .ok (.aload_n 0, 1) := by decide +kernel
theorem dX2_root_11 : decode cX2_root 11 = .ok (.getfield 61, 3) := by decide +kernel
theorem dX2_root_14 : decode cX2_root 14 = .ok (.iload_n 1, 1) := by decide +kernel
theorem dX2_root_15 : decode cX2_root 15 = .ok (.invokestatic 54, 3) := by decide +kernel
theorem dX2_root_18 : decode cX2_root 18 = .ok (.ifCond .eq 6, 3) := by decide +kernel
theorem dX2_root_21 : decode cX2_root 21 = .ok (.bipush (-3), 2) := by decide +kernel
theorem dX2_root_23 : decode cX2_root 23 = .ok (.ireturn, 1) := by decide +kernel
theorem dX2_root_24 : decode cX2_root 24 = .ok (.aload_n 0, 1) := by decide +kernel
theorem dX2_root_25 : decode cX2_root 25 = .ok (.getfield 13, 3) := by decide +kernel
theorem dX2_root_28 : decode cX2_root 28 = .ok (.iload_n 1, 1) := by decide +kernel
theorem dX2_root_29 : decode cX2_root 29 = .ok (.baload, 1) := by decide +kernel
theorem dX2_root_30 : decode cX2_root 30 = .ok (.iload_n 2, 1) := by decide +kernel
theorem dX2_root_31 : decode cX2_root 31 = .ok (.if_icmp .ne 5, 3) := by decide +kernel
theorem dX2_root_34 : decode cX2_root 34 = .ok (.iconst 0, 1) := by decide +kernel
theorem dX2_root_35 : decode cX2_root 35 = .ok (.ireturn, 1) := by decide +kernel
theorem dX2_root_36 : decode cX2_root 36 = .ok (.aload_n 0, 1) := by decide +kernel
theorem dX2_root_37 : decode cX2_root 37 = .ok (.getfield 13, 3) := by decide +kernel
theorem dX2_root_40 : decode cX2_root 40 = .ok (.iload_n 1, 1) := by decide +kernel
theorem dX2_root_41 : decode cX2_root 41 = .ok (.iload_n 2, 1) := by decide +kernel
theorem dX2_root_42 : decode cX2_root 42 = .ok (.bastore, 1) := by decide +kernel
theorem dX2_root_43 : decode cX2_root 43 = .ok (.iconst 1, 1) := by decide +kernel
theorem dX2_root_44 : decode cX2_root 44 = .ok (.ireturn, 1) := by decide +kernel
set_option maxRecDepth 20000 in
theorem ggX2_adds_X2_isLink : GoodIn wsX2_adds wsX2_isLink := goodIn_r _ [7, 8, 9, 10, 6, 11, 1, 12, 13, 14, 15, 16, 17, 18, 19, 20, 21, 22, 23, 24] (by decide +kernel) (by decide +kernel)
set_option maxRecDepth 20000 in
theorem gX2_adds_X2_isLink : GoodIn wsX2_adds (wsV RX2 64 RX2 yX2_isLink wsX2_isLink) := goodIn_app (goodIn_of _ (by decide +kernel)) ggX2_adds_X2_isLink
theorem dX2_adds_0 : decode cX2_adds 0 = .ok (.aload_n 0, 1) := by decide +kernel
theorem dX2_adds_1 : decode cX2_adds 1 = .ok (.iload_n 1, 1) := by decide +kernel
theorem dX2_adds_2 : decode cX2_adds 2 = .ok (.iload_n 2, 1) := by decide +kernel
theorem dX2_adds_3 : decode cX2_adds 3 = .ok (.invokevirtual 64, 3) := by decide +kernel
theorem dX2_adds_6 : decode cX2_adds 6 = .ok (.ifCond .ne 22, 3) := by decide +kernel
theorem dX2_adds_9 : decode cX2_adds 9 = .ok (.aload_n 0, 1) := by decide +kernel
theorem dX2_adds_10 : decode cX2_adds 10 = .ok (.getfield 23, 3) := by decide +kernel
theorem dX2_adds_13 : decode cX2_adds 13 = .ok (.bipush 10, 2) := by decide +kernel
theorem dX2_adds_15 : decode cX2_adds 15 = .ok (.iload_n 1, 1) := by decide +kernel
theorem dX2_adds_16 : decode cX2_adds 16 = .ok (.imul, 1) := by decide +kernel
theorem dX2_adds_17 : decode cX2_adds 17 = .ok (.iload_n 2, 1) := by decide +kernel
theorem dX2_adds_18 : decode cX2_adds 18 = .ok (.iadd, 1) := by decide +kernel
theorem dX2_adds_19 : decode cX2_adds 19 = .ok (.iconst 0, 1) := by decide +kernel
theorem dX2_adds_20 : decode cX2_adds 20 = .ok (.iastore, 1) := by decide +kernel
theorem dX2_adds_21 : decode cX2_adds 21 = .ok (.aload_n 0, 1) := by decide +kernel
theorem dX2_adds_22 : decode cX2_adds 22 = .ok (.getfield 20, 3) := by decide +kernel
theorem dX2_adds_25 : decode cX2_adds 25 = .ok (.iload_n 2, 1) := by decide +kernel
theorem dX2_adds_26 : decode cX2_adds 26 = .ok (.iconst 0, 1) := by decide +kernel
theorem dX2_adds_27 : decode cX2_adds 27 = .ok (.iastore, 1) := by decide +kernel
theorem dX2_adds_28 : decode cX2_adds 28 = .ok (.aload_n 0, 1) := by decide +kernel
theorem dX2_adds_29 : decode cX2_adds 29 = .ok (.getfield 23, 3) := by decide +kernel
theorem dX2_adds_32 : decode cX2_adds 32 = .ok (.bipush 10, 2) := by decide +kernel
theorem dX2_adds_34 : decode cX2_adds 34 = .ok (.iload_n 1, 1) := by decide +kernel
theorem dX2_adds_35 : decode cX2_adds 35 = .ok (.imul, 1) := by decide +kernel
theorem dX2_adds_36 : decode cX2_adds 36 = .ok (.iload_n 2, 1) := by decide +kernel
theorem dX2_adds_37 : decode cX2_adds 37 = .ok (.iadd, 1) := by decide +kernel
theorem dX2_adds_38 : decode cX2_adds 38 = .ok (.dup2, 1) := by decide +kernel
theorem dX2_adds_39 : decode cX2_adds 39 = .ok (.iaload, 1) := by decide +kernel
theorem dX2_adds_40 : decode cX2_adds 40 = .ok (.iload_n 3, 1) := by decide +kernel
theorem dX2_adds_41 : decode cX2_adds 41 = .ok (.iadd, 1) := by decide +kernel
theorem dX2_adds_42 : decode cX2_adds 42 = .ok (.iastore, 1) := by decide +kernel
theorem dX2_adds_43 : decode cX2_adds 43 = .ok (.return_, 1) := by decide +kernel
set_option maxRecDepth 20000 in
theorem ggX2_link_X2_isObject : GoodIn wsX2_link wsX2_isObject := goodIn_r _ [8, 9, 10, 11, 7, 12, 35, 36, 37, 38, 39, 40, 41, 42, 43, 44, 45, 46, 47] (by decide +kernel) (by decide +kernel)
set_option maxRecDepth 20000 in
theorem gX2_link_X2_isObject : GoodIn wsX2_link (wsV RX2 58 RX2 yX2_isObject wsX2_isObject) := goodIn_app (goodIn_of _ (by decide +kernel)) ggX2_link_X2_isObject
set_option maxRecDepth 20000 in
theorem ggX2_link_X2_has : GoodIn wsX2_link wsX2_has := goodIn_r _ [15] (by decide +kernel) (by decide +kernel)
set_option maxRecDepth 20000 in
theorem gX2_link_X2_has : GoodIn wsX2_link (va_wsS RX2 54 yX2_has wsX2_has) := goodIn_app (goodIn_of _ (by decide +kernel)) ggX2_link_X2_has
set_option maxRecDepth 20000 in
theorem ggX2_link_X2_areNeighbours : GoodIn wsX2_link wsX2_areNeighbours := goodIn_r _ [19, 20, 35, 36, 37, 38, 39, 40, 41, 42, 43, 44, 45, 46, 47] (by decide +kernel) (by decide +kernel)
set_option maxRecDepth 20000 in
theorem gX2_link_X2_areNeighbours : GoodIn wsX2_link (wsV RX2 67 RX2 yX2_areNeighbours wsX2_areNeighbours) := goodIn_app (goodIn_of _ (by decide +kernel)) ggX2_link_X2_areNeighbours
set_option maxRecDepth 20000 in
theorem ggX2_link_X2_isLink : GoodIn wsX2_link wsX2_isLink := goodIn_r _ [24, 25, 26, 27, 7, 28, 29, 35, 36, 37, 38, 39, 40, 41, 42, 43, 44, 45, 46, 47] (by decide +kernel) (by decide +kernel)
set_option maxRecDepth 20000 in
theorem gX2_link_X2_isLink : GoodIn wsX2_link (wsV RX2 64 RX2 yX2_isLink wsX2_isLink) := goodIn_app (goodIn_of _ (by decide +kernel)) ggX2_link_X2_isLink
set_option maxRecDepth 20000 in
theorem ggX2_link_X2_adds : GoodIn wsX2_link wsX2_adds := goodIn_r _ [33, 29, 34, 21, 22, 23, 7, 24, 25, 26, 27, 28, 35, 36, 37, 38, 39, 40, 41, 42, 43, 44, 45, 46, 47] (by decide +kernel) (by decide +kernel)
set_option maxRecDepth 20000 in
theorem gX2_link_X2_adds : GoodIn wsX2_link (wsV RX2 70 RX2 yX2_adds wsX2_adds) := goodIn_app (goodIn_of _ (by decide +kernel)) ggX2_link_X2_adds
theorem dX2_link_0 : decode cX2_link 0 = .ok (.aload_n 0, 1) := by decide +kernel
theorem dX2_link_1 : decode cX2_link 1 = .ok (.iload_n 1, 1) := by decide +kernel
theorem dX2_link_2 : decode cX2_link 2 = .ok (.invokevirtual 58, 3) := by decide +kernel
theorem dX2_link_5 : decode cX2_link 5 = .ok (.ifCond .eq 11, 3) := by decide +kernel
theorem dX2_link_8 : decode cX2_link 8 = .ok (.aload_n 0, 1) := by decide +kernel
theorem dX2_link_9 : decode cX2_link 9 = .ok (.iload_n 2, 1) := by decide +kernel
theorem dX2_link_10 : decode cX2_link 10 = .ok (.invokevirtual 58, 3) := by decide +kernel
theorem dX2_link_13 : decode cX2_link 13 = .ok (.ifCond .ne 5, 3) := by decide +kernel
theorem dX2_link_16 : decode cX2_link 16 = .ok (.iconst (-1), 1) := by decide +kernel
theorem dX2_link_17 : decode cX2_link 17 = .ok (.ireturn, 1) := by decide +kernel
theorem dX2_link_18 : decode cX2_link 18 = .ok (.iload_n 1, 1) := by decide +kernel
theorem dX2_link_19 : decode cX2_link 19 = .ok (.iload_n 2, 1) := by decide +kernel
theorem dX2_link_20 : decode cX2_link 20 = .ok (.if_icmp .eq 43, 3) := by decide +kernel
theorem dX2_link_23 : decode cX2_link 23 = .ok (.aload_n 0, 1) := by decide +kernel
theorem dX2_link_24 : decode cX2_link 24 = .ok (.getfield 61, 3) := by decide +kernel
theorem dX2_link_27 : decode cX2_link 27 = .ok (.iload_n 1, 1) := by decide +kernel
theorem dX2_link_28 : decode cX2_link 28 = .ok (.invokestatic 54, 3) := by decide +kernel
theorem dX2_link_31 : decode cX2_link 31 = .ok (.ifCond .ne 32, 3) := by decide +kernel
theorem dX2_link_34 : decode cX2_link 34 = .ok (.aload_n 0, 1) := by decide +kernel
theorem dX2_link_35 : decode cX2_link 35 = .ok (.getfield 61, 3) := by decide +kernel
theorem dX2_link_38 : decode cX2_link 38 = .ok (.iload_n 2, 1) := by decide +kernel
theorem dX2_link_39 : decode cX2_link 39 = .ok (.invokestatic 54, 3) := by decide +kernel
theorem dX2_link_42 : decode cX2_link 42 = .ok (.ifCond .ne 21, 3) := by decide +kernel
theorem dX2_link_45 : decode cX2_link 45 = .ok (.aload_n 0, 1) := by decide +kernel
theorem dX2_link_46 : decode cX2_link 46 = .ok (.iload_n 1, 1) := by decide +kernel
theorem dX2_link_47 : decode cX2_link 47 = .ok (.iload_n 2, 1) := by decide +kernel
theorem dX2_link_48 : decode cX2_link 48 = .ok (.invokevirtual 67, 3) := by decide +kernel
theorem dX2_link_51 : decode cX2_link 51 = .ok (.ifCond .ne 15, 3) := by decide +kernel
theorem dX2_link_54 : decode cX2_link 54 = .ok (.aload_n 0, 1) := by decide +kernel
theorem dX2_link_55 : decode cX2_link 55 = .ok (.getfield 13, 3) := by decide +kernel
theorem dX2_link_58 : decode cX2_link 58 = .ok (.iload_n 2, 1) := by decide +kernel
theorem dX2_link_59 : decode cX2_link 59 = .ok (.baload, 1) := by decide +kernel
theorem dX2_link_60 : decode cX2_link 60 = .ok (.ifCond .ne 6, 3) := by decide +kernel
theorem dX2_link_63 : decode cX2_link 63 = .ok (.bipush (-3), 2) := by decide +kernel
theorem dX2_link_65 : decode cX2_link 65 = .ok (.ireturn, 1) := by decide +kernel
theorem dX2_link_66 : decode cX2_link 66 = .ok (.aload_n 0, 1) := by decide +kernel
theorem dX2_link_67 : decode cX2_link 67 = .ok (.iload_n 1, 1) := by decide +kernel
theorem dX2_link_68 : decode cX2_link 68 = .ok (.iload_n 2, 1) := by decide +kernel
theorem dX2_link_69 : decode cX2_link 69 = .ok (.invokevirtual 64, 3) := by decide +kernel
theorem dX2_link_72 : decode cX2_link 72 = .ok (.ifCond .eq 5, 3) := by decide +kernel
theorem dX2_link_75 : decode cX2_link 75 = .ok (.iconst 0, 1) := by decide +kernel
theorem dX2_link_76 : decode cX2_link 76 = .ok (.ireturn, 1) := by decide +kernel
theorem dX2_link_77 : decode cX2_link 77 = .ok (.aload_n 0, 1) := by decide +kernel
theorem dX2_link_78 : decode cX2_link 78 = .ok (.iload_n 1, 1) := by decide +kernel
theorem dX2_link_79 : decode cX2_link 79 = .ok (.iload_n 2, 1) := by decide +kernel
theorem dX2_link_80 : decode cX2_link 80 = .ok (.invokevirtual 67, 3) := by decide +kernel
theorem dX2_link_83 : decode cX2_link 83 = .ok (.ifCond .eq 7, 3) := by decide +kernel
theorem dX2_link_86 : decode cX2_link 86 = .ok (.iconst 0, 1) := by decide +kernel
theorem dX2_link_87 : decode cX2_link 87 = .ok (.goto 5, 3) := by decide +kernel
theorem dX2_link_90 : decode cX2_link 90 = .ok (.bipush 64, 2) := by decide +kernel
theorem dX2_link_92 : decode cX2_link 92 = .ok (.istore_n 3, 1) := by decide +kernel
theorem dX2_link_93 : decode cX2_link 93 = .ok (.aload_n 0, 1) := by decide +kernel
theorem dX2_link_94 : decode cX2_link 94 = .ok (.getfield 17, 3) := by decide +kernel
theorem dX2_link_97 : decode cX2_link 97 = .ok (.iload_n 2, 1) := by decide +kernel
theorem dX2_link_98 : decode cX2_link 98 = .ok (.dup2, 1) := by decide +kernel
theorem dX2_link_99 : decode cX2_link 99 = .ok (.iaload, 1) := by decide +kernel
theorem dX2_link_100 : decode cX2_link 100 = .ok (.iload_n 3, 1) := by decide +kernel
theorem dX2_link_101 : decode cX2_link 101 = .ok (.iadd, 1) := by decide +kernel
theorem dX2_link_102 : decode cX2_link 102 = .ok (.iastore, 1) := by decide +kernel
theorem dX2_link_103 : decode cX2_link 103 = .ok (.aload_n 0, 1) := by decide +kernel
theorem dX2_link_104 : decode cX2_link 104 = .ok (.iload_n 1, 1) := by decide +kernel
theorem dX2_link_105 : decode cX2_link 105 = .ok (.iload_n 2, 1) := by decide +kernel
theorem dX2_link_106 : decode cX2_link 106 = .ok (.iload_n 3, 1) := by decide +kernel
theorem dX2_link_107 : decode cX2_link 107 = .ok (.invokevirtual 70, 3) := by decide +kernel
theorem dX2_link_110 : decode cX2_link 110 = .ok (.iconst 1, 1) := by decide +kernel
theorem dX2_link_111 : decode cX2_link 111 = .ok (.ireturn, 1) := by decide +kernel
theorem dX2_sends_0 : decode cX2_sends 0 = .ok (.aload_n 0, 1) := by decide +kernel
theorem dX2_sends_1 : decode cX2_sends 1 = .ok (.getfield 26, 3) := by decide +kernel
theorem dX2_sends_4 : decode cX2_sends 4 = .ok (.aload_n 0, 1) := by decide +kernel
theorem dX2_sends_5 : decode cX2_sends 5 = .ok (.getfield 74, 3) := by decide +kernel
theorem dX2_sends_8 : decode cX2_sends 8 = .ok (.iload_n 1, 1) := by decide +kernel
theorem dX2_sends_9 : decode cX2_sends 9 = .ok (.iastore, 1) := by decide +kernel
theorem dX2_sends_10 : decode cX2_sends 10 = .ok (.aload_n 0, 1) := by decide +kernel
theorem dX2_sends_11 : decode cX2_sends 11 = .ok (.getfield 29, 3) := by decide +kernel
theorem dX2_sends_14 : decode cX2_sends 14 = .ok (.aload_n 0, 1) := by decide +kernel
theorem dX2_sends_15 : decode cX2_sends 15 = .ok (.getfield 74, 3) := by decide +kernel
theorem dX2_sends_18 : decode cX2_sends 18 = .ok (.iload_n 2, 1) := by decide +kernel
theorem dX2_sends_19 : decode cX2_sends 19 = .ok (.iastore, 1) := by decide +kernel
theorem dX2_sends_20 : decode cX2_sends 20 = .ok (.aload_n 0, 1) := by decide +kernel
theorem dX2_sends_21 : decode cX2_sends 21 = .ok (.getfield 32, 3) := by decide +kernel
theorem dX2_sends_24 : decode cX2_sends 24 = .ok (.aload_n 0, 1) := by decide +kernel
theorem dX2_sends_25 : decode cX2_sends 25 = .ok (.getfield 74, 3) := by decide +kernel
theorem dX2_sends_28 : decode cX2_sends 28 = .ok (.iload_n 3, 1) := by decide +kernel
theorem dX2_sends_29 : decode cX2_sends 29 = .ok (.iastore, 1) := by decide +kernel
theorem dX2_sends_30 : decode cX2_sends 30 = .ok (.aload_n 0, 1) := by decide +kernel
theorem dX2_sends_31 : decode cX2_sends 31 = .ok (.dup, 1) := by decide +kernel
theorem dX2_sends_32 : decode cX2_sends 32 = .ok (.getfield 74, 3) := by decide +kernel
theorem dX2_sends_35 : decode cX2_sends 35 = .ok (.iconst 1, 1) := by decide +kernel
theorem dX2_sends_36 : decode cX2_sends 36 = .ok (.iadd, 1) := by decide +kernel
theorem dX2_sends_37 : decode cX2_sends 37 = .ok (.putfield 74, 3) := by decide +kernel
theorem dX2_sends_40 : decode cX2_sends 40 = .ok (.return_, 1) := by decide +kernel
theorem dX2_hostFor_0 : decode cX2_hostFor 0 = .ok (.aload_n 0, 1) := by decide +kernel
theorem dX2_hostFor_1 : decode cX2_hostFor 1 = .ok (.getfield 29, 3) := by decide +kernel
theorem dX2_hostFor_4 : decode cX2_hostFor 4 = .ok (.iload_n 1, 1) := by decide +kernel
theorem dX2_hostFor_5 : decode cX2_hostFor 5 = .ok (.iaload, 1) := by decide +kernel
theorem dX2_hostFor_6 : decode cX2_hostFor 6 = .ok (.bipush (-9), 2) := by decide +kernel
theorem dX2_hostFor_8 : decode cX2_hostFor 8 = .ok (.if_icmp .ne 17, 3) := by decide +kernel
theorem dX2_hostFor_11 : decode cX2_hostFor 11 = .ok (.aload_n 0, 1) := by decide +kernel
theorem dX2_hostFor_12 : decode cX2_hostFor 12 = .ok (.getfield 7, 3) := by decide +kernel
theorem dX2_hostFor_15 : decode cX2_hostFor 15 = .ok (.aload_n 0, 1) := by decide +kernel
theorem dX2_hostFor_16 : decode cX2_hostFor 16 = .ok (.getfield 26, 3) := by decide +kernel
theorem dX2_hostFor_19 : decode cX2_hostFor 19 = .ok (.iload_n 1, 1) := by decide +kernel
theorem dX2_hostFor_20 : decode cX2_hostFor 20 = .ok (.iaload, 1) := by decide +kernel
theorem dX2_hostFor_21 : decode cX2_hostFor 21 = .ok (.iaload, 1) := by decide +kernel
theorem dX2_hostFor_22 : decode cX2_hostFor 22 = .ok (.goto 14, 3) := by decide +kernel
theorem dX2_hostFor_25 : decode cX2_hostFor 25 = .ok (.aload_n 0, 1) := by decide +kernel
theorem dX2_hostFor_26 : decode cX2_hostFor 26 = .ok (.getfield 7, 3) := by decide +kernel
theorem dX2_hostFor_29 : decode cX2_hostFor 29 = .ok (.aload_n 0, 1) := by decide +kernel
theorem dX2_hostFor_30 : decode cX2_hostFor 30 = .ok (.getfield 29, 3) := by decide +kernel
theorem dX2_hostFor_33 : decode cX2_hostFor 33 = .ok (.iload_n 1, 1) := by decide +kernel
theorem dX2_hostFor_34 : decode cX2_hostFor 34 = .ok (.iaload, 1) := by decide +kernel
theorem dX2_hostFor_35 : decode cX2_hostFor 35 = .ok (.iaload, 1) := by decide +kernel
theorem dX2_hostFor_36 : decode cX2_hostFor 36 = .ok (.ireturn, 1) := by decide +kernel
set_option maxRecDepth 20000 in
theorem ggX2_unlink_X2_isObject : GoodIn wsX2_unlink wsX2_isObject := goodIn_r _ [7, 8, 9, 10, 6, 11, 23, 24, 25, 26, 27, 28, 29, 30, 31, 32, 33, 34, 35] (by decide +kernel) (by decide +kernel)
set_option maxRecDepth 20000 in
theorem gX2_unlink_X2_isObject : GoodIn wsX2_unlink (wsV RX2 58 RX2 yX2_isObject wsX2_isObject) := goodIn_app (goodIn_of _ (by decide +kernel)) ggX2_unlink_X2_isObject
set_option maxRecDepth 20000 in
theorem ggX2_unlink_X2_linkFrom : GoodIn wsX2_unlink wsX2_linkFrom := goodIn_r _ [15, 2, 23, 24, 25, 26, 27, 28, 29, 30, 31, 32, 33, 34, 35] (by decide +kernel) (by decide +kernel)
set_option maxRecDepth 20000 in
theorem gX2_unlink_X2_linkFrom : GoodIn wsX2_unlink (wsV RX2 43 RX2 yX2_linkFrom wsX2_linkFrom) := goodIn_app (goodIn_of _ (by decide +kernel)) ggX2_unlink_X2_linkFrom
set_option maxRecDepth 20000 in
theorem ggX2_unlink_X2_sends : GoodIn wsX2_unlink wsX2_sends := goodIn_r _ [19, 20, 1, 21, 22, 23, 24, 25, 26, 27, 28, 29, 30, 31, 32, 33, 34, 35] (by decide +kernel) (by decide +kernel)
set_option maxRecDepth 20000 in
theorem gX2_unlink_X2_sends : GoodIn wsX2_unlink (wsV RX2 77 RX2 yX2_sends wsX2_sends) := goodIn_app (goodIn_of _ (by decide +kernel)) ggX2_unlink_X2_sends
theorem dX2_unlink_0 : decode cX2_unlink 0 = .ok (.aload_n 0, 1) := by decide +kernel
theorem dX2_unlink_1 : decode cX2_unlink 1 = .ok (.iload_n 1, 1) := by decide +kernel
theorem dX2_unlink_2 : decode cX2_unlink 2 = .ok (.invokevirtual 58, 3) := by decide +kernel
theorem dX2_unlink_5 : decode cX2_unlink 5 = .ok (.ifCond .eq 11, 3) := by decide +kernel
theorem dX2_unlink_8 : decode cX2_unlink 8 = .ok (.aload_n 0, 1) := by decide +kernel
theorem dX2_unlink_9 : decode cX2_unlink 9 = .ok (.iload_n 2, 1) := by decide +kernel
theorem dX2_unlink_10 : decode cX2_unlink 10 = .ok (.invokevirtual 58, 3) := by decide +kernel
theorem dX2_unlink_13 : decode cX2_unlink 13 = .ok (.ifCond .ne 5, 3) := by decide +kernel
theorem dX2_unlink_16 : decode cX2_unlink 16 = .ok (.iconst (-1), 1) := by decide +kernel
theorem dX2_unlink_17 : decode cX2_unlink 17 = .ok (.ireturn, 1) := by decide +kernel
theorem dX2_unlink_18 : decode cX2_unlink 18 = .ok (.aload_n 0, 1) := by decide +kernel
theorem dX2_unlink_19 : decode cX2_unlink 19 = .ok (.iload_n 1, 1) := by decide +kernel
theorem dX2_unlink_20 : decode cX2_unlink 20 = .ok (.iload_n 2, 1) := by decide +kernel
theorem dX2_unlink_21 : decode cX2_unlink 21 = .ok (.invokevirtual 43, 3) := by decide +kernel
theorem dX2_unlink_24 : decode cX2_unlink 24 = .ok (.istore_n 3, 1) := by decide +kernel
theorem dX2_unlink_25 : decode cX2_unlink 25 = .ok (.iload_n 3, 1) := by decide +kernel
theorem dX2_unlink_26 : decode cX2_unlink 26 = .ok (.bipush (-9), 2) := by decide +kernel
theorem dX2_unlink_28 : decode cX2_unlink 28 = .ok (.if_icmp .ne 6, 3) := by decide +kernel
theorem dX2_unlink_31 : decode cX2_unlink 31 = .ok (.bipush (-3), 2) := by decide +kernel
theorem dX2_unlink_33 : decode cX2_unlink 33 = .ok (.ireturn, 1) := by decide +kernel
theorem dX2_unlink_34 : decode cX2_unlink 34 = .ok (.iload_n 3, 1) := by decide +kernel
theorem dX2_unlink_35 : decode cX2_unlink 35 = .ok (.ifCond .le 15, 3) := by decide +kernel
theorem dX2_unlink_38 : decode cX2_unlink 38 = .ok (.aload_n 0, 1) := by decide +kernel
theorem dX2_unlink_39 : decode cX2_unlink 39 = .ok (.getfield 74, 3) := by decide +kernel
theorem dX2_unlink_42 : decode cX2_unlink 42 = .ok (.bipush 60, 2) := by decide +kernel
theorem dX2_unlink_44 : decode cX2_unlink 44 = .ok (.if_icmp .lt 6, 3) := by decide +kernel
theorem dX2_unlink_47 : decode cX2_unlink 47 = .ok (.bipush (-4), 2) := by decide +kernel
theorem dX2_unlink_49 : decode cX2_unlink 49 = .ok (.ireturn, 1) := by decide +kernel
theorem dX2_unlink_50 : decode cX2_unlink 50 = .ok (.aload_n 0, 1) := by decide +kernel
theorem dX2_unlink_51 : decode cX2_unlink 51 = .ok (.getfield 23, 3) := by decide +kernel
theorem dX2_unlink_54 : decode cX2_unlink 54 = .ok (.bipush 10, 2) := by decide +kernel
theorem dX2_unlink_56 : decode cX2_unlink 56 = .ok (.iload_n 1, 1) := by decide +kernel
theorem dX2_unlink_57 : decode cX2_unlink 57 = .ok (.imul, 1) := by decide +kernel
theorem dX2_unlink_58 : decode cX2_unlink 58 = .ok (.iload_n 2, 1) := by decide +kernel
theorem dX2_unlink_59 : decode cX2_unlink 59 = .ok (.iadd, 1) := by decide +kernel
theorem dX2_unlink_60 : decode cX2_unlink 60 = .ok (.bipush (-9), 2) := by decide +kernel
theorem dX2_unlink_62 : decode cX2_unlink 62 = .ok (.iastore, 1) := by decide +kernel
theorem dX2_unlink_63 : decode cX2_unlink 63 = .ok (.iload_n 3, 1) := by decide +kernel
theorem dX2_unlink_64 : decode cX2_unlink 64 = .ok (.ifCond .le 11, 3) := by decide +kernel
theorem dX2_unlink_67 : decode cX2_unlink 67 = .ok (.aload_n 0, 1) := by decide +kernel
theorem dX2_unlink_68 : decode cX2_unlink 68 = .ok (.iload_n 2, 1) := by decide +kernel
theorem dX2_unlink_69 : decode cX2_unlink 69 = .ok (.bipush (-9), 2) := by decide +kernel
theorem dX2_unlink_71 : decode cX2_unlink 71 = .ok (.iload_n 3, 1) := by decide +kernel
theorem dX2_unlink_72 : decode cX2_unlink 72 = .ok (.invokevirtual 77, 3) := by decide +kernel
theorem dX2_unlink_75 : decode cX2_unlink 75 = .ok (.iload_n 3, 1) := by decide +kernel
theorem dX2_unlink_76 : decode cX2_unlink 76 = .ok (.ifCond .le 7, 3) := by decide +kernel
theorem dX2_unlink_79 : decode cX2_unlink 79 = .ok (.iconst 1, 1) := by decide +kernel
theorem dX2_unlink_80 : decode cX2_unlink 80 = .ok (.goto 4, 3) := by decide +kernel
theorem dX2_unlink_83 : decode cX2_unlink 83 = .ok (.iconst 0, 1) := by decide +kernel
theorem dX2_unlink_84 : decode cX2_unlink 84 = .ok (.ireturn, 1) := by decide +kernel
set_option maxRecDepth 20000 in
theorem ggX2_fromOf_X2_isLink : GoodIn wsX2_fromOf wsX2_isLink := goodIn_r _ [6, 7, 8, 9, 5, 10, 11, 12, 13, 14, 15, 16, 17, 18, 19, 20, 21, 22, 23, 24] (by decide +kernel) (by decide +kernel)
set_option maxRecDepth 20000 in
theorem gX2_fromOf_X2_isLink : GoodIn wsX2_fromOf (wsV RX2 64 RX2 yX2_isLink wsX2_isLink) := goodIn_app (goodIn_of _ (by decide +kernel)) ggX2_fromOf_X2_isLink
theorem dX2_fromOf_0 : decode cX2_fromOf 0 = .ok (.iconst 0, 1) := by decide +kernel
theorem dX2_fromOf_1 : decode cX2_fromOf 1 = .ok (.istore_n 2, 1) := by decide +kernel
theorem dX2_fromOf_2 : decode cX2_fromOf 2 = .ok (.iconst 0, 1) := by decide +kernel
theorem dX2_fromOf_3 : decode cX2_fromOf 3 = .ok (.istore_n 3, 1) := by decide +kernel
theorem dX2_fromOf_4 : decode cX2_fromOf 4 = .ok (.iload_n 3, 1) := by decide +kernel
theorem dX2_fromOf_5 : decode cX2_fromOf 5 = .ok (.aload_n 0, 1) := by decide +kernel
theorem dX2_fromOf_6 : decode cX2_fromOf 6 = .ok (.getfield 39, 3) := by decide +kernel
theorem dX2_fromOf_9 : decode cX2_fromOf 9 = .ok (.if_icmp .ge 28, 3) := by decide +kernel
theorem dX2_fromOf_12 : decode cX2_fromOf 12 = .ok (.iload_n 2, 1) := by decide +kernel
theorem dX2_fromOf_13 : decode cX2_fromOf 13 = .ok (.aload_n 0, 1) := by decide +kernel
theorem dX2_fromOf_14 : decode cX2_fromOf 14 = .ok (.iload_n 1, 1) := by decide +kernel
theorem dX2_fromOf_15 : decode cX2_fromOf 15 = .ok (.iload_n 3, 1) := by decide +kernel
theorem dX2_fromOf_16 : decode cX2_fromOf 16 = .ok (.invokevirtual 64, 3) := by decide +kernel
theorem dX2_fromOf_19 : decode cX2_fromOf 19 = .ok (.ifCond .eq 9, 3) := by decide +kernel
theorem dX2_fromOf_22 : decode cX2_fromOf 22 = .ok (.iconst 1, 1) := by decide +kernel
theorem dX2_fromOf_23 : decode cX2_fromOf 23 = .ok (.iload_n 3, 1) := by decide +kernel
theorem dX2_fromOf_24 : decode cX2_fromOf 24 = .ok (.ishl, 1) := by decide +kernel
theorem dX2_fromOf_25 : decode cX2_fromOf 25 = .ok (.goto 4, 3) := by decide +kernel
theorem dX2_fromOf_28 : decode cX2_fromOf 28 = .ok (.iconst 0, 1) := by decide +kernel
theorem dX2_fromOf_29 : decode cX2_fromOf 29 = .ok (.ior, 1) := by decide +kernel
theorem dX2_fromOf_30 : decode cX2_fromOf 30 = .ok (.istore_n 2, 1) := by decide +kernel
theorem dX2_fromOf_31 : decode cX2_fromOf 31 = .ok (.iinc 3 1, 3) := by decide +kernel
theorem dX2_fromOf_34 : decode cX2_fromOf 34 = .ok (.goto (-30), 3) := by decide +kernel
theorem dX2_fromOf_37 : decode cX2_fromOf 37 = .ok (.iload_n 2, 1) := by decide +kernel
theorem dX2_fromOf_38 : decode cX2_fromOf 38 = .ok (.ireturn, 1) := by decide +kernel
set_option maxRecDepth 20000 in
theorem ggX2_toOf_X2_isLink : GoodIn wsX2_toOf wsX2_isLink := goodIn_r _ [6, 7, 8, 9, 5, 10, 11, 12, 13, 14, 15, 16, 17, 18, 19, 20, 21, 22, 23, 24] (by decide +kernel) (by decide +kernel)
set_option maxRecDepth 20000 in
theorem gX2_toOf_X2_isLink : GoodIn wsX2_toOf (wsV RX2 64 RX2 yX2_isLink wsX2_isLink) := goodIn_app (goodIn_of _ (by decide +kernel)) ggX2_toOf_X2_isLink
theorem dX2_toOf_0 : decode cX2_toOf 0 = .ok (.iconst 0, 1) := by decide +kernel
theorem dX2_toOf_1 : decode cX2_toOf 1 = .ok (.istore_n 2, 1) := by decide +kernel
theorem dX2_toOf_2 : decode cX2_toOf 2 = .ok (.iconst 0, 1) := by decide +kernel
theorem dX2_toOf_3 : decode cX2_toOf 3 = .ok (.istore_n 3, 1) := by decide +kernel
theorem dX2_toOf_4 : decode cX2_toOf 4 = .ok (.iload_n 3, 1) := by decide +kernel
theorem dX2_toOf_5 : decode cX2_toOf 5 = .ok (.aload_n 0, 1) := by decide +kernel
theorem dX2_toOf_6 : decode cX2_toOf 6 = .ok (.getfield 39, 3) := by decide +kernel
theorem dX2_toOf_9 : decode cX2_toOf 9 = .ok (.if_icmp .ge 28, 3) := by decide +kernel
theorem dX2_toOf_12 : decode cX2_toOf 12 = .ok (.iload_n 2, 1) := by decide +kernel
theorem dX2_toOf_13 : decode cX2_toOf 13 = .ok (.aload_n 0, 1) := by decide +kernel
theorem dX2_toOf_14 : decode cX2_toOf 14 = .ok (.iload_n 3, 1) := by decide +kernel
theorem dX2_toOf_15 : decode cX2_toOf 15 = .ok (.iload_n 1, 1) := by decide +kernel
theorem dX2_toOf_16 : decode cX2_toOf 16 = .ok (.invokevirtual 64, 3) := by decide +kernel
theorem dX2_toOf_19 : decode cX2_toOf 19 = .ok (.ifCond .eq 9, 3) := by decide +kernel
theorem dX2_toOf_22 : decode cX2_toOf 22 = .ok (.iconst 1, 1) := by decide +kernel
theorem dX2_toOf_23 : decode cX2_toOf 23 = .ok (.iload_n 3, 1) := by decide +kernel
theorem dX2_toOf_24 : decode cX2_toOf 24 = .ok (.ishl, 1) := by decide +kernel
theorem dX2_toOf_25 : decode cX2_toOf 25 = .ok (.goto 4, 3) := by decide +kernel
theorem dX2_toOf_28 : decode cX2_toOf 28 = .ok (.iconst 0, 1) := by decide +kernel
theorem dX2_toOf_29 : decode cX2_toOf 29 = .ok (.ior, 1) := by decide +kernel
theorem dX2_toOf_30 : decode cX2_toOf 30 = .ok (.istore_n 2, 1) := by decide +kernel
theorem dX2_toOf_31 : decode cX2_toOf 31 = .ok (.iinc 3 1, 3) := by decide +kernel
theorem dX2_toOf_34 : decode cX2_toOf 34 = .ok (.goto (-30), 3) := by decide +kernel
theorem dX2_toOf_37 : decode cX2_toOf 37 = .ok (.iload_n 2, 1) := by decide +kernel
theorem dX2_toOf_38 : decode cX2_toOf 38 = .ok (.ireturn, 1) := by decide +kernel
set_option maxRecDepth 20000 in
theorem ggX2_ofObject_X2_isObject : GoodIn wsX2_ofObject wsX2_isObject := goodIn_r _ [10, 11, 12, 13, 9, 14, 35, 36, 37, 38, 39, 40, 41, 42, 43, 44, 45, 46, 47] (by decide +kernel) (by decide +kernel)
set_option maxRecDepth 20000 in
theorem gX2_ofObject_X2_isObject : GoodIn wsX2_ofObject (wsV RX2 58 RX2 yX2_isObject wsX2_isObject) := goodIn_app (goodIn_of _ (by decide +kernel)) ggX2_ofObject_X2_isObject
set_option maxRecDepth 20000 in
theorem ggX2_ofObject_X2_has : GoodIn wsX2_ofObject wsX2_has := goodIn_r _ [17] (by decide +kernel) (by decide +kernel)
set_option maxRecDepth 20000 in
theorem gX2_ofObject_X2_has : GoodIn wsX2_ofObject (va_wsS RX2 54 yX2_has wsX2_has) := goodIn_app (goodIn_of _ (by decide +kernel)) ggX2_ofObject_X2_has
set_option maxRecDepth 20000 in
theorem ggX2_ofObject_X2_fromOf : GoodIn wsX2_ofObject wsX2_fromOf := goodIn_r _ [21, 11, 22, 23, 24, 9, 25, 26, 27, 28, 29, 30, 35, 36, 37, 38, 39, 40, 41, 42, 43, 44, 45, 46, 47] (by decide +kernel) (by decide +kernel)
set_option maxRecDepth 20000 in
theorem gX2_ofObject_X2_fromOf : GoodIn wsX2_ofObject (wsV RX2 80 RX2 yX2_fromOf wsX2_fromOf) := goodIn_app (goodIn_of _ (by decide +kernel)) ggX2_ofObject_X2_fromOf
set_option maxRecDepth 20000 in
theorem ggX2_ofObject_X2_toOf : GoodIn wsX2_ofObject wsX2_toOf := goodIn_r _ [34, 11, 22, 23, 24, 9, 25, 26, 27, 28, 29, 30, 35, 36, 37, 38, 39, 40, 41, 42, 43, 44, 45, 46, 47] (by decide +kernel) (by decide +kernel)
set_option maxRecDepth 20000 in
theorem gX2_ofObject_X2_toOf : GoodIn wsX2_ofObject (wsV RX2 84 RX2 yX2_toOf wsX2_toOf) := goodIn_app (goodIn_of _ (by decide +kernel)) ggX2_ofObject_X2_toOf
theorem dX2_ofObject_0 : decode cX2_ofObject 0 = .ok (.aload_n 0, 1) := by decide +kernel
theorem dX2_ofObject_1 : decode cX2_ofObject 1 = .ok (.iload_n 1, 1) := by decide +kernel
theorem dX2_ofObject_2 : decode cX2_ofObject 2 = .ok (.invokevirtual 58, 3) := by decide +kernel
theorem dX2_ofObject_5 : decode cX2_ofObject 5 = .ok (.ifCond .ne 5, 3) := by decide +kernel
theorem dX2_ofObject_8 : decode cX2_ofObject 8 = .ok (.iconst (-1), 1) := by decide +kernel
theorem dX2_ofObject_9 : decode cX2_ofObject 9 = .ok (.ireturn, 1) := by decide +kernel
theorem dX2_ofObject_10 : decode cX2_ofObject 10 = .ok (.iload_n 2, 1) := by decide +kernel
theorem dX2_ofObject_11 : decode cX2_ofObject 11 = .ok (.tableswitch 106 0 6 #[41, 48, 63, 80, 87, 94, 100], 41) := by decide +kernel
theorem dX2_ofObject_52 : decode cX2_ofObject 52 = .ok (.aload_n 0, 1) := by decide +kernel
theorem dX2_ofObject_53 : decode cX2_ofObject 53 = .ok (.getfield 7, 3) := by decide +kernel
theorem dX2_ofObject_56 : decode cX2_ofObject 56 = .ok (.iload_n 1, 1) := by decide +kernel
theorem dX2_ofObject_57 : decode cX2_ofObject 57 = .ok (.iaload, 1) := by decide +kernel
theorem dX2_ofObject_58 : decode cX2_ofObject 58 = .ok (.ireturn, 1) := by decide +kernel
theorem dX2_ofObject_59 : decode cX2_ofObject 59 = .ok (.aload_n 0, 1) := by decide +kernel
theorem dX2_ofObject_60 : decode cX2_ofObject 60 = .ok (.getfield 13, 3) := by decide +kernel
theorem dX2_ofObject_63 : decode cX2_ofObject 63 = .ok (.iload_n 1, 1) := by decide +kernel
theorem dX2_ofObject_64 : decode cX2_ofObject 64 = .ok (.baload, 1) := by decide +kernel
theorem dX2_ofObject_65 : decode cX2_ofObject 65 = .ok (.ifCond .eq 7, 3) := by decide +kernel
theorem dX2_ofObject_68 : decode cX2_ofObject 68 = .ok (.iconst 1, 1) := by decide +kernel
theorem dX2_ofObject_69 : decode cX2_ofObject 69 = .ok (.goto 4, 3) := by decide +kernel
theorem dX2_ofObject_72 : decode cX2_ofObject 72 = .ok (.iconst 0, 1) := by decide +kernel
theorem dX2_ofObject_73 : decode cX2_ofObject 73 = .ok (.ireturn, 1) := by decide +kernel
theorem dX2_ofObject_74 : decode cX2_ofObject 74 = .ok (.aload_n 0, 1) := by decide +kernel
theorem dX2_ofObject_75 : decode cX2_ofObject 75 = .ok (.getfield 61, 3) := by decide +kernel
theorem dX2_ofObject_78 : decode cX2_ofObject 78 = .ok (.iload_n 1, 1) := by decide +kernel
theorem dX2_ofObject_79 : decode cX2_ofObject 79 = .ok (.invokestatic 54, 3) := by decide +kernel
theorem dX2_ofObject_82 : decode cX2_ofObject 82 = .ok (.ifCond .eq 7, 3) := by decide +kernel
theorem dX2_ofObject_85 : decode cX2_ofObject 85 = .ok (.iconst 0, 1) := by decide +kernel
theorem dX2_ofObject_86 : decode cX2_ofObject 86 = .ok (.goto 4, 3) := by decide +kernel
theorem dX2_ofObject_89 : decode cX2_ofObject 89 = .ok (.iconst 1, 1) := by decide +kernel
theorem dX2_ofObject_90 : decode cX2_ofObject 90 = .ok (.ireturn, 1) := by decide +kernel
theorem dX2_ofObject_91 : decode cX2_ofObject 91 = .ok (.aload_n 0, 1) := by decide +kernel
theorem dX2_ofObject_92 : decode cX2_ofObject 92 = .ok (.getfield 17, 3) := by decide +kernel
theorem dX2_ofObject_95 : decode cX2_ofObject 95 = .ok (.iload_n 1, 1) := by decide +kernel
theorem dX2_ofObject_96 : decode cX2_ofObject 96 = .ok (.iaload, 1) := by decide +kernel
theorem dX2_ofObject_97 : decode cX2_ofObject 97 = .ok (.ireturn, 1) := by decide +kernel
theorem dX2_ofObject_98 : decode cX2_ofObject 98 = .ok (.aload_n 0, 1) := by decide +kernel
theorem dX2_ofObject_99 : decode cX2_ofObject 99 = .ok (.getfield 20, 3) := by decide +kernel
theorem dX2_ofObject_102 : decode cX2_ofObject 102 = .ok (.iload_n 1, 1) := by decide +kernel
theorem dX2_ofObject_103 : decode cX2_ofObject 103 = .ok (.iaload, 1) := by decide +kernel
theorem dX2_ofObject_104 : decode cX2_ofObject 104 = .ok (.ireturn, 1) := by decide +kernel
theorem dX2_ofObject_105 : decode cX2_ofObject 105 = .ok (.aload_n 0, 1) := by decide +kernel
theorem dX2_ofObject_106 : decode cX2_ofObject 106 = .ok (.iload_n 1, 1) := by decide +kernel
theorem dX2_ofObject_107 : decode cX2_ofObject 107 = .ok (.invokevirtual 80, 3) := by decide +kernel
theorem dX2_ofObject_110 : decode cX2_ofObject 110 = .ok (.ireturn, 1) := by decide +kernel
theorem dX2_ofObject_111 : decode cX2_ofObject 111 = .ok (.aload_n 0, 1) := by decide +kernel
theorem dX2_ofObject_112 : decode cX2_ofObject 112 = .ok (.iload_n 1, 1) := by decide +kernel
theorem dX2_ofObject_113 : decode cX2_ofObject 113 = .ok (.invokevirtual 84, 3) := by decide +kernel
theorem dX2_ofObject_116 : decode cX2_ofObject 116 = .ok (.ireturn, 1) := by decide +kernel
theorem dX2_ofObject_117 : decode cX2_ofObject 117 = .ok (.bipush (-2), 2) := by decide +kernel
theorem dX2_ofObject_119 : decode cX2_ofObject 119 = .ok (.ireturn, 1) := by decide +kernel
set_option maxRecDepth 20000 in
theorem ggX2_weight_X2_isObject : GoodIn wsX2_weight wsX2_isObject := goodIn_r _ [5, 6, 7, 8, 4, 9, 15, 16, 17, 18, 19, 20, 21, 22, 23, 24, 25, 26, 27] (by decide +kernel) (by decide +kernel)
set_option maxRecDepth 20000 in
theorem gX2_weight_X2_isObject : GoodIn wsX2_weight (wsV RX2 58 RX2 yX2_isObject wsX2_isObject) := goodIn_app (goodIn_of _ (by decide +kernel)) ggX2_weight_X2_isObject
set_option maxRecDepth 20000 in
theorem ggX2_weight_X2_linkFrom : GoodIn wsX2_weight wsX2_linkFrom := goodIn_r _ [13, 14, 15, 16, 17, 18, 19, 20, 21, 22, 23, 24, 25, 26, 27] (by decide +kernel) (by decide +kernel)
set_option maxRecDepth 20000 in
theorem gX2_weight_X2_linkFrom : GoodIn wsX2_weight (wsV RX2 43 RX2 yX2_linkFrom wsX2_linkFrom) := goodIn_app (goodIn_of _ (by decide +kernel)) ggX2_weight_X2_linkFrom
theorem dX2_weight_0 : decode cX2_weight 0 = .ok (.aload_n 0, 1) := by decide +kernel
theorem dX2_weight_1 : decode cX2_weight 1 = .ok (.iload_n 1, 1) := by decide +kernel
theorem dX2_weight_2 : decode cX2_weight 2 = .ok (.invokevirtual 58, 3) := by decide +kernel
theorem dX2_weight_5 : decode cX2_weight 5 = .ok (.ifCond .eq 20, 3) := by decide +kernel
theorem dX2_weight_8 : decode cX2_weight 8 = .ok (.aload_n 0, 1) := by decide +kernel
theorem dX2_weight_9 : decode cX2_weight 9 = .ok (.iload_n 2, 1) := by decide +kernel
theorem dX2_weight_10 : decode cX2_weight 10 = .ok (.invokevirtual 58, 3) := by decide +kernel
theorem dX2_weight_13 : decode cX2_weight 13 = .ok (.ifCond .eq 12, 3) := by decide +kernel
theorem dX2_weight_16 : decode cX2_weight 16 = .ok (.aload_n 0, 1) := by decide +kernel
theorem dX2_weight_17 : decode cX2_weight 17 = .ok (.iload_n 1, 1) := by decide +kernel
theorem dX2_weight_18 : decode cX2_weight 18 = .ok (.iload_n 2, 1) := by decide +kernel
theorem dX2_weight_19 : decode cX2_weight 19 = .ok (.invokevirtual 43, 3) := by decide +kernel
theorem dX2_weight_22 : decode cX2_weight 22 = .ok (.goto 4, 3) := by decide +kernel
theorem dX2_weight_25 : decode cX2_weight 25 = .ok (.iconst (-1), 1) := by decide +kernel
theorem dX2_weight_26 : decode cX2_weight 26 = .ok (.ireturn, 1) := by decide +kernel
theorem dX2_splits_0 : decode cX2_splits 0 = .ok (.bipush 10, 2) := by decide +kernel
theorem dX2_splits_2 : decode cX2_splits 2 = .ok (.iload_n 1, 1) := by decide +kernel
theorem dX2_splits_3 : decode cX2_splits 3 = .ok (.imul, 1) := by decide +kernel
theorem dX2_splits_4 : decode cX2_splits 4 = .ok (.iload_n 2, 1) := by decide +kernel
theorem dX2_splits_5 : decode cX2_splits 5 = .ok (.iadd, 1) := by decide +kernel
theorem dX2_splits_6 : decode cX2_splits 6 = .ok (.istore_n 3, 1) := by decide +kernel
theorem dX2_splits_7 : decode cX2_splits 7 = .ok (.aload_n 0, 1) := by decide +kernel
theorem dX2_splits_8 : decode cX2_splits 8 = .ok (.getfield 23, 3) := by decide +kernel
theorem dX2_splits_11 : decode cX2_splits 11 = .ok (.iload_n 3, 1) := by decide +kernel
theorem dX2_splits_12 : decode cX2_splits 12 = .ok (.iaload, 1) := by decide +kernel
theorem dX2_splits_13 : decode cX2_splits 13 = .ok (.iconst 1, 1) := by decide +kernel
theorem dX2_splits_14 : decode cX2_splits 14 = .ok (.if_icmp .ne 35, 3) := by decide +kernel
theorem dX2_splits_17 : decode cX2_splits 17 = .ok (.aload_n 0, 1) := by decide +kernel
theorem dX2_splits_18 : decode cX2_splits 18 = .ok (.getfield 23, 3) := by decide +kernel
theorem dX2_splits_21 : decode cX2_splits 21 = .ok (.iload_n 3, 1) := by decide +kernel
theorem dX2_splits_22 : decode cX2_splits 22 = .ok (.dup2, 1) := by decide +kernel
theorem dX2_splits_23 : decode cX2_splits 23 = .ok (.iaload, 1) := by decide +kernel
theorem dX2_splits_24 : decode cX2_splits 24 = .ok (.bipush 64, 2) := by decide +kernel
theorem dX2_splits_26 : decode cX2_splits 26 = .ok (.iadd, 1) := by decide +kernel
theorem dX2_splits_27 : decode cX2_splits 27 = .ok (.iastore, 1) := by decide +kernel
theorem dX2_splits_28 : decode cX2_splits 28 = .ok (.aload_n 0, 1) := by decide +kernel
theorem dX2_splits_29 : decode cX2_splits 29 = .ok (.getfield 17, 3) := by decide +kernel
theorem dX2_splits_32 : decode cX2_splits 32 = .ok (.iload_n 2, 1) := by decide +kernel
theorem dX2_splits_33 : decode cX2_splits 33 = .ok (.dup2, 1) := by decide +kernel
theorem dX2_splits_34 : decode cX2_splits 34 = .ok (.iaload, 1) := by decide +kernel
theorem dX2_splits_35 : decode cX2_splits 35 = .ok (.bipush 64, 2) := by decide +kernel
theorem dX2_splits_37 : decode cX2_splits 37 = .ok (.iadd, 1) := by decide +kernel
theorem dX2_splits_38 : decode cX2_splits 38 = .ok (.iastore, 1) := by decide +kernel
theorem dX2_splits_39 : decode cX2_splits 39 = .ok (.aload_n 0, 1) := by decide +kernel
theorem dX2_splits_40 : decode cX2_splits 40 = .ok (.dup, 1) := by decide +kernel
theorem dX2_splits_41 : decode cX2_splits 41 = .ok (.getfield 87, 3) := by decide +kernel
theorem dX2_splits_44 : decode cX2_splits 44 = .ok (.iconst 1, 1) := by decide +kernel
theorem dX2_splits_45 : decode cX2_splits 45 = .ok (.iadd, 1) := by decide +kernel
theorem dX2_splits_46 : decode cX2_splits 46 = .ok (.putfield 87, 3) := by decide +kernel
theorem dX2_splits_49 : decode cX2_splits 49 = .ok (.aload_n 0, 1) := by decide +kernel
theorem dX2_splits_50 : decode cX2_splits 50 = .ok (.getfield 23, 3) := by decide +kernel
theorem dX2_splits_53 : decode cX2_splits 53 = .ok (.iload_n 3, 1) := by decide +kernel
theorem dX2_splits_54 : decode cX2_splits 54 = .ok (.iaload, 1) := by decide +kernel
theorem dX2_splits_55 : decode cX2_splits 55 = .ok (.iconst 2, 1) := by decide +kernel
theorem dX2_splits_56 : decode cX2_splits 56 = .ok (.idiv, 1) := by decide +kernel
theorem dX2_splits_57 : decode cX2_splits 57 = .ok (.istore 4, 2) := by decide +kernel
theorem dX2_splits_59 : decode cX2_splits 59 = .ok (.aload_n 0, 1) := by decide +kernel
theorem dX2_splits_60 : decode cX2_splits 60 = .ok (.getfield 23, 3) := by decide +kernel
theorem dX2_splits_63 : decode cX2_splits 63 = .ok (.iload_n 3, 1) := by decide +kernel
theorem dX2_splits_64 : decode cX2_splits 64 = .ok (.dup2, 1) := by decide +kernel
theorem dX2_splits_65 : decode cX2_splits 65 = .ok (.iaload, 1) := by decide +kernel
theorem dX2_splits_66 : decode cX2_splits 66 = .ok (.iload 4, 2) := by decide +kernel
theorem dX2_splits_68 : decode cX2_splits 68 = .ok (.isub, 1) := by decide +kernel
theorem dX2_splits_69 : decode cX2_splits 69 = .ok (.iastore, 1) := by decide +kernel
theorem dX2_splits_70 : decode cX2_splits 70 = .ok (.iload 4, 2) := by decide +kernel
theorem dX2_splits_72 : decode cX2_splits 72 = .ok (.ireturn, 1) := by decide +kernel
set_option maxRecDepth 20000 in
theorem ggX2_mayGive_X2_has : GoodIn wsX2_mayGive wsX2_has := goodIn_r _ [5] (by decide +kernel) (by decide +kernel)
set_option maxRecDepth 20000 in
theorem gX2_mayGive_X2_has : GoodIn wsX2_mayGive (va_wsS RX2 54 yX2_has wsX2_has) := goodIn_app (goodIn_of _ (by decide +kernel)) ggX2_mayGive_X2_has
set_option maxRecDepth 20000 in
theorem ggX2_mayGive_X2_isLink : GoodIn wsX2_mayGive wsX2_isLink := goodIn_r _ [9, 10, 11, 12, 4, 13, 14, 15, 16, 17, 18, 19, 20, 21, 22, 23, 24, 25, 26, 27] (by decide +kernel) (by decide +kernel)
set_option maxRecDepth 20000 in
theorem gX2_mayGive_X2_isLink : GoodIn wsX2_mayGive (wsV RX2 64 RX2 yX2_isLink wsX2_isLink) := goodIn_app (goodIn_of _ (by decide +kernel)) ggX2_mayGive_X2_isLink
theorem dX2_mayGive_0 : decode cX2_mayGive 0 = .ok (.aload_n 0, 1) := by decide +kernel
theorem dX2_mayGive_1 : decode cX2_mayGive 1 = .ok (.getfield 61, 3) := by decide +kernel
theorem dX2_mayGive_4 : decode cX2_mayGive 4 = .ok (.iload_n 1, 1) := by decide +kernel
theorem dX2_mayGive_5 : decode cX2_mayGive 5 = .ok (.invokestatic 54, 3) := by decide +kernel
theorem dX2_mayGive_8 : decode cX2_mayGive 8 = .ok (.ifCond .ne 35, 3) := by decide +kernel
theorem dX2_mayGive_11 : decode cX2_mayGive 11 = .ok (.aload_n 0, 1) := by decide +kernel
theorem dX2_mayGive_12 : decode cX2_mayGive 12 = .ok (.getfield 61, 3) := by decide +kernel
theorem dX2_mayGive_15 : decode cX2_mayGive 15 = .ok (.iload_n 2, 1) := by decide +kernel
theorem dX2_mayGive_16 : decode cX2_mayGive 16 = .ok (.invokestatic 54, 3) := by decide +kernel
theorem dX2_mayGive_19 : decode cX2_mayGive 19 = .ok (.ifCond .ne 24, 3) := by decide +kernel
theorem dX2_mayGive_22 : decode cX2_mayGive 22 = .ok (.aload_n 0, 1) := by decide +kernel
theorem dX2_mayGive_23 : decode cX2_mayGive 23 = .ok (.getfield 61, 3) := by decide +kernel
theorem dX2_mayGive_26 : decode cX2_mayGive 26 = .ok (.iload_n 3, 1) := by decide +kernel
theorem dX2_mayGive_27 : decode cX2_mayGive 27 = .ok (.invokestatic 54, 3) := by decide +kernel
theorem dX2_mayGive_30 : decode cX2_mayGive 30 = .ok (.ifCond .ne 13, 3) := by decide +kernel
theorem dX2_mayGive_33 : decode cX2_mayGive 33 = .ok (.iload_n 2, 1) := by decide +kernel
theorem dX2_mayGive_34 : decode cX2_mayGive 34 = .ok (.iload_n 1, 1) := by decide +kernel
theorem dX2_mayGive_35 : decode cX2_mayGive 35 = .ok (.if_icmp .eq 8, 3) := by decide +kernel
theorem dX2_mayGive_38 : decode cX2_mayGive 38 = .ok (.iload_n 2, 1) := by decide +kernel
theorem dX2_mayGive_39 : decode cX2_mayGive 39 = .ok (.iload_n 3, 1) := by decide +kernel
theorem dX2_mayGive_40 : decode cX2_mayGive 40 = .ok (.if_icmp .ne 5, 3) := by decide +kernel
theorem dX2_mayGive_43 : decode cX2_mayGive 43 = .ok (.iconst 0, 1) := by decide +kernel
theorem dX2_mayGive_44 : decode cX2_mayGive 44 = .ok (.ireturn, 1) := by decide +kernel
theorem dX2_mayGive_45 : decode cX2_mayGive 45 = .ok (.aload_n 0, 1) := by decide +kernel
theorem dX2_mayGive_46 : decode cX2_mayGive 46 = .ok (.iload_n 1, 1) := by decide +kernel
theorem dX2_mayGive_47 : decode cX2_mayGive 47 = .ok (.iload_n 2, 1) := by decide +kernel
theorem dX2_mayGive_48 : decode cX2_mayGive 48 = .ok (.invokevirtual 64, 3) := by decide +kernel
theorem dX2_mayGive_51 : decode cX2_mayGive 51 = .ok (.ifCond .eq 21, 3) := by decide +kernel
theorem dX2_mayGive_54 : decode cX2_mayGive 54 = .ok (.iload_n 1, 1) := by decide +kernel
theorem dX2_mayGive_55 : decode cX2_mayGive 55 = .ok (.iload_n 3, 1) := by decide +kernel
theorem dX2_mayGive_56 : decode cX2_mayGive 56 = .ok (.if_icmp .eq 12, 3) := by decide +kernel
theorem dX2_mayGive_59 : decode cX2_mayGive 59 = .ok (.aload_n 0, 1) := by decide +kernel
theorem dX2_mayGive_60 : decode cX2_mayGive 60 = .ok (.iload_n 1, 1) := by decide +kernel
theorem dX2_mayGive_61 : decode cX2_mayGive 61 = .ok (.iload_n 3, 1) := by decide +kernel
theorem dX2_mayGive_62 : decode cX2_mayGive 62 = .ok (.invokevirtual 64, 3) := by decide +kernel
theorem dX2_mayGive_65 : decode cX2_mayGive 65 = .ok (.ifCond .eq 7, 3) := by decide +kernel
theorem dX2_mayGive_68 : decode cX2_mayGive 68 = .ok (.iconst 1, 1) := by decide +kernel
theorem dX2_mayGive_69 : decode cX2_mayGive 69 = .ok (.goto 4, 3) := by decide +kernel
theorem dX2_mayGive_72 : decode cX2_mayGive 72 = .ok (.iconst 0, 1) := by decide +kernel
theorem dX2_mayGive_73 : decode cX2_mayGive 73 = .ok (.ireturn, 1) := by decide +kernel
set_option maxRecDepth 20000 in
theorem ggX2_give_X2_isObject : GoodIn wsX2_give wsX2_isObject := goodIn_r _ [7, 8, 9, 10, 6, 11, 51, 52, 53, 54, 55, 56, 57, 58, 59, 60, 61, 62, 63] (by decide +kernel) (by decide +kernel)
set_option maxRecDepth 20000 in
theorem gX2_give_X2_isObject : GoodIn wsX2_give (wsV RX2 58 RX2 yX2_isObject wsX2_isObject) := goodIn_app (goodIn_of _ (by decide +kernel)) ggX2_give_X2_isObject
set_option maxRecDepth 20000 in
theorem ggX2_give_X2_mayGive : GoodIn wsX2_give wsX2_mayGive := goodIn_r _ [15, 16, 17, 18, 6, 19, 20, 21, 22, 23, 24, 25, 26, 27, 28, 51, 52, 53, 54, 55, 56, 57, 58, 59, 60, 61, 62, 63] (by decide +kernel) (by decide +kernel)
set_option maxRecDepth 20000 in
theorem gX2_give_X2_mayGive : GoodIn wsX2_give (wsV RX2 90 RX2 yX2_mayGive wsX2_mayGive) := goodIn_app (goodIn_of _ (by decide +kernel)) ggX2_give_X2_mayGive
set_option maxRecDepth 20000 in
theorem ggX2_give_X2_areNeighbours : GoodIn wsX2_give wsX2_areNeighbours := goodIn_r _ [32, 33, 51, 52, 53, 54, 55, 56, 57, 58, 59, 60, 61, 62, 63] (by decide +kernel) (by decide +kernel)
set_option maxRecDepth 20000 in
theorem gX2_give_X2_areNeighbours : GoodIn wsX2_give (wsV RX2 67 RX2 yX2_areNeighbours wsX2_areNeighbours) := goodIn_app (goodIn_of _ (by decide +kernel)) ggX2_give_X2_areNeighbours
set_option maxRecDepth 20000 in
theorem ggX2_give_X2_splits : GoodIn wsX2_give wsX2_splits := goodIn_r _ [37, 28, 2, 38, 51, 52, 53, 54, 55, 56, 57, 58, 59, 60, 61, 62, 63] (by decide +kernel) (by decide +kernel)
set_option maxRecDepth 20000 in
theorem gX2_give_X2_splits : GoodIn wsX2_give (wsV RX2 93 RX2 yX2_splits wsX2_splits) := goodIn_app (goodIn_of _ (by decide +kernel)) ggX2_give_X2_splits
set_option maxRecDepth 20000 in
theorem ggX2_give_X2_adds : GoodIn wsX2_give wsX2_adds := goodIn_r _ [42, 28, 43, 20, 21, 22, 6, 23, 24, 25, 26, 27, 51, 52, 53, 54, 55, 56, 57, 58, 59, 60, 61, 62, 63] (by decide +kernel) (by decide +kernel)
set_option maxRecDepth 20000 in
theorem gX2_give_X2_adds : GoodIn wsX2_give (wsV RX2 70 RX2 yX2_adds wsX2_adds) := goodIn_app (goodIn_of _ (by decide +kernel)) ggX2_give_X2_adds
set_option maxRecDepth 20000 in
theorem ggX2_give_X2_sends : GoodIn wsX2_give wsX2_sends := goodIn_r _ [47, 48, 1, 49, 50, 51, 52, 53, 54, 55, 56, 57, 58, 59, 60, 61, 62, 63] (by decide +kernel) (by decide +kernel)
set_option maxRecDepth 20000 in
theorem gX2_give_X2_sends : GoodIn wsX2_give (wsV RX2 77 RX2 yX2_sends wsX2_sends) := goodIn_app (goodIn_of _ (by decide +kernel)) ggX2_give_X2_sends
theorem dX2_give_0 : decode cX2_give 0 = .ok (.aload_n 0, 1) := by decide +kernel
theorem dX2_give_1 : decode cX2_give 1 = .ok (.iload_n 1, 1) := by decide +kernel
theorem dX2_give_2 : decode cX2_give 2 = .ok (.invokevirtual 58, 3) := by decide +kernel
theorem dX2_give_5 : decode cX2_give 5 = .ok (.ifCond .eq 19, 3) := by decide +kernel
theorem dX2_give_8 : decode cX2_give 8 = .ok (.aload_n 0, 1) := by decide +kernel
theorem dX2_give_9 : decode cX2_give 9 = .ok (.iload_n 2, 1) := by decide +kernel
theorem dX2_give_10 : decode cX2_give 10 = .ok (.invokevirtual 58, 3) := by decide +kernel
theorem dX2_give_13 : decode cX2_give 13 = .ok (.ifCond .eq 11, 3) := by decide +kernel
theorem dX2_give_16 : decode cX2_give 16 = .ok (.aload_n 0, 1) := by decide +kernel
theorem dX2_give_17 : decode cX2_give 17 = .ok (.iload_n 3, 1) := by decide +kernel
theorem dX2_give_18 : decode cX2_give 18 = .ok (.invokevirtual 58, 3) := by decide +kernel
theorem dX2_give_21 : decode cX2_give 21 = .ok (.ifCond .ne 5, 3) := by decide +kernel
theorem dX2_give_24 : decode cX2_give 24 = .ok (.iconst (-1), 1) := by decide +kernel
theorem dX2_give_25 : decode cX2_give 25 = .ok (.ireturn, 1) := by decide +kernel
theorem dX2_give_26 : decode cX2_give 26 = .ok (.aload_n 0, 1) := by decide +kernel
theorem dX2_give_27 : decode cX2_give 27 = .ok (.iload_n 1, 1) := by decide +kernel
theorem dX2_give_28 : decode cX2_give 28 = .ok (.iload_n 2, 1) := by decide +kernel
theorem dX2_give_29 : decode cX2_give 29 = .ok (.iload_n 3, 1) := by decide +kernel
theorem dX2_give_30 : decode cX2_give 30 = .ok (.invokevirtual 90, 3) := by decide +kernel
theorem dX2_give_33 : decode cX2_give 33 = .ok (.ifCond .ne 6, 3) := by decide +kernel
theorem dX2_give_36 : decode cX2_give 36 = .ok (.bipush (-3), 2) := by decide +kernel
theorem dX2_give_38 : decode cX2_give 38 = .ok (.ireturn, 1) := by decide +kernel
theorem dX2_give_39 : decode cX2_give 39 = .ok (.aload_n 0, 1) := by decide +kernel
theorem dX2_give_40 : decode cX2_give 40 = .ok (.iload_n 1, 1) := by decide +kernel
theorem dX2_give_41 : decode cX2_give 41 = .ok (.iload_n 2, 1) := by decide +kernel
theorem dX2_give_42 : decode cX2_give 42 = .ok (.invokevirtual 67, 3) := by decide +kernel
theorem dX2_give_45 : decode cX2_give 45 = .ok (.ifCond .eq 30, 3) := by decide +kernel
theorem dX2_give_48 : decode cX2_give 48 = .ok (.aload_n 0, 1) := by decide +kernel
theorem dX2_give_49 : decode cX2_give 49 = .ok (.iload_n 2, 1) := by decide +kernel
theorem dX2_give_50 : decode cX2_give 50 = .ok (.iload_n 3, 1) := by decide +kernel
theorem dX2_give_51 : decode cX2_give 51 = .ok (.aload_n 0, 1) := by decide +kernel
theorem dX2_give_52 : decode cX2_give 52 = .ok (.iload_n 2, 1) := by decide +kernel
theorem dX2_give_53 : decode cX2_give 53 = .ok (.iload_n 3, 1) := by decide +kernel
theorem dX2_give_54 : decode cX2_give 54 = .ok (.invokevirtual 67, 3) := by decide +kernel
theorem dX2_give_57 : decode cX2_give 57 = .ok (.ifCond .eq 7, 3) := by decide +kernel
theorem dX2_give_60 : decode cX2_give 60 = .ok (.iconst 0, 1) := by decide +kernel
theorem dX2_give_61 : decode cX2_give 61 = .ok (.goto 9, 3) := by decide +kernel
theorem dX2_give_64 : decode cX2_give 64 = .ok (.aload_n 0, 1) := by decide +kernel
theorem dX2_give_65 : decode cX2_give 65 = .ok (.iload_n 1, 1) := by decide +kernel
theorem dX2_give_66 : decode cX2_give 66 = .ok (.iload_n 3, 1) := by decide +kernel
theorem dX2_give_67 : decode cX2_give 67 = .ok (.invokevirtual 93, 3) := by decide +kernel
theorem dX2_give_70 : decode cX2_give 70 = .ok (.invokevirtual 70, 3) := by decide +kernel
theorem dX2_give_73 : decode cX2_give 73 = .ok (.iconst 0, 1) := by decide +kernel
theorem dX2_give_74 : decode cX2_give 74 = .ok (.ireturn, 1) := by decide +kernel
theorem dX2_give_75 : decode cX2_give 75 = .ok (.aload_n 0, 1) := by decide +kernel
theorem dX2_give_76 : decode cX2_give 76 = .ok (.getfield 74, 3) := by decide +kernel
theorem dX2_give_79 : decode cX2_give 79 = .ok (.bipush 60, 2) := by decide +kernel
theorem dX2_give_81 : decode cX2_give 81 = .ok (.if_icmp .lt 6, 3) := by decide +kernel
theorem dX2_give_84 : decode cX2_give 84 = .ok (.bipush (-4), 2) := by decide +kernel
theorem dX2_give_86 : decode cX2_give 86 = .ok (.ireturn, 1) := by decide +kernel
theorem dX2_give_87 : decode cX2_give 87 = .ok (.aload_n 0, 1) := by decide +kernel
theorem dX2_give_88 : decode cX2_give 88 = .ok (.iload_n 1, 1) := by decide +kernel
theorem dX2_give_89 : decode cX2_give 89 = .ok (.iload_n 3, 1) := by decide +kernel
theorem dX2_give_90 : decode cX2_give 90 = .ok (.invokevirtual 67, 3) := by decide +kernel
theorem dX2_give_93 : decode cX2_give 93 = .ok (.ifCond .eq 25, 3) := by decide +kernel
theorem dX2_give_96 : decode cX2_give 96 = .ok (.aload_n 0, 1) := by decide +kernel
theorem dX2_give_97 : decode cX2_give 97 = .ok (.getfield 17, 3) := by decide +kernel
theorem dX2_give_100 : decode cX2_give 100 = .ok (.iload_n 3, 1) := by decide +kernel
theorem dX2_give_101 : decode cX2_give 101 = .ok (.dup2, 1) := by decide +kernel
theorem dX2_give_102 : decode cX2_give 102 = .ok (.iaload, 1) := by decide +kernel
theorem dX2_give_103 : decode cX2_give 103 = .ok (.bipush 64, 2) := by decide +kernel
theorem dX2_give_105 : decode cX2_give 105 = .ok (.iadd, 1) := by decide +kernel
theorem dX2_give_106 : decode cX2_give 106 = .ok (.iastore, 1) := by decide +kernel
theorem dX2_give_107 : decode cX2_give 107 = .ok (.aload_n 0, 1) := by decide +kernel
theorem dX2_give_108 : decode cX2_give 108 = .ok (.iload_n 3, 1) := by decide +kernel
theorem dX2_give_109 : decode cX2_give 109 = .ok (.iload_n 2, 1) := by decide +kernel
theorem dX2_give_110 : decode cX2_give 110 = .ok (.bipush 64, 2) := by decide +kernel
theorem dX2_give_112 : decode cX2_give 112 = .ok (.invokevirtual 77, 3) := by decide +kernel
theorem dX2_give_115 : decode cX2_give 115 = .ok (.goto 15, 3) := by decide +kernel
theorem dX2_give_118 : decode cX2_give 118 = .ok (.aload_n 0, 1) := by decide +kernel
theorem dX2_give_119 : decode cX2_give 119 = .ok (.iload_n 3, 1) := by decide +kernel
theorem dX2_give_120 : decode cX2_give 120 = .ok (.iload_n 2, 1) := by decide +kernel
theorem dX2_give_121 : decode cX2_give 121 = .ok (.aload_n 0, 1) := by decide +kernel
theorem dX2_give_122 : decode cX2_give 122 = .ok (.iload_n 1, 1) := by decide +kernel
theorem dX2_give_123 : decode cX2_give 123 = .ok (.iload_n 3, 1) := by decide +kernel
theorem dX2_give_124 : decode cX2_give 124 = .ok (.invokevirtual 93, 3) := by decide +kernel
theorem dX2_give_127 : decode cX2_give 127 = .ok (.invokevirtual 77, 3) := by decide +kernel
theorem dX2_give_130 : decode cX2_give 130 = .ok (.iconst 1, 1) := by decide +kernel
theorem dX2_give_131 : decode cX2_give 131 = .ok (.ireturn, 1) := by decide +kernel
set_option maxRecDepth 20000 in
theorem ggX2_arrives_X2_has : GoodIn wsX2_arrives wsX2_has := goodIn_r _ [8] (by decide +kernel) (by decide +kernel)
set_option maxRecDepth 20000 in
theorem gX2_arrives_X2_has : GoodIn wsX2_arrives (va_wsS RX2 54 yX2_has wsX2_has) := goodIn_app (goodIn_of _ (by decide +kernel)) ggX2_arrives_X2_has
set_option maxRecDepth 20000 in
theorem ggX2_arrives_X2_arrivesGrant : GoodIn wsX2_arrives wsX2_arrivesGrant := goodIn_r _ [12, 1, 2, 5, 6, 7, 8, 13, 14, 15, 16, 4, 17, 18, 19, 20, 21, 22, 23, 24, 25, 26, 27, 28, 29, 30, 31, 32, 33, 34, 35, 36, 37, 38, 39, 40, 41, 42, 43, 44, 45, 46, 47, 48, 49, 50, 51] (by decide +kernel) (by decide +kernel)
set_option maxRecDepth 20000 in
theorem gX2_arrives_X2_arrivesGrant : GoodIn wsX2_arrives (wsV RX2 96 RX2 yX2_arrivesGrant wsX2_arrivesGrant) := goodIn_app (goodIn_of _ (by decide +kernel)) ggX2_arrives_X2_arrivesGrant
theorem dX2_arrives_0 : decode cX2_arrives 0 = .ok (.aload_n 0, 1) := by decide +kernel
theorem dX2_arrives_1 : decode cX2_arrives 1 = .ok (.getfield 61, 3) := by decide +kernel
theorem dX2_arrives_4 : decode cX2_arrives 4 = .ok (.iload_n 1, 1) := by decide +kernel
theorem dX2_arrives_5 : decode cX2_arrives 5 = .ok (.invokestatic 54, 3) := by decide +kernel
theorem dX2_arrives_8 : decode cX2_arrives 8 = .ok (.ifCond .eq 4, 3) := by decide +kernel
theorem dX2_arrives_11 : decode cX2_arrives 11 = .ok (.return_, 1) := by decide +kernel
theorem dX2_arrives_12 : decode cX2_arrives 12 = .ok (.iload_n 2, 1) := by decide +kernel
theorem dX2_arrives_13 : decode cX2_arrives 13 = .ok (.bipush (-9), 2) := by decide +kernel
theorem dX2_arrives_15 : decode cX2_arrives 15 = .ok (.if_icmp .ne 16, 3) := by decide +kernel
theorem dX2_arrives_18 : decode cX2_arrives 18 = .ok (.aload_n 0, 1) := by decide +kernel
theorem dX2_arrives_19 : decode cX2_arrives 19 = .ok (.getfield 17, 3) := by decide +kernel
theorem dX2_arrives_22 : decode cX2_arrives 22 = .ok (.iload_n 1, 1) := by decide +kernel
theorem dX2_arrives_23 : decode cX2_arrives 23 = .ok (.dup2, 1) := by decide +kernel
theorem dX2_arrives_24 : decode cX2_arrives 24 = .ok (.iaload, 1) := by decide +kernel
theorem dX2_arrives_25 : decode cX2_arrives 25 = .ok (.iload_n 3, 1) := by decide +kernel
theorem dX2_arrives_26 : decode cX2_arrives 26 = .ok (.isub, 1) := by decide +kernel
theorem dX2_arrives_27 : decode cX2_arrives 27 = .ok (.iastore, 1) := by decide +kernel
theorem dX2_arrives_28 : decode cX2_arrives 28 = .ok (.goto 26, 3) := by decide +kernel
theorem dX2_arrives_31 : decode cX2_arrives 31 = .ok (.aload_n 0, 1) := by decide +kernel
theorem dX2_arrives_32 : decode cX2_arrives 32 = .ok (.getfield 51, 3) := by decide +kernel
theorem dX2_arrives_35 : decode cX2_arrives 35 = .ok (.aload_n 0, 1) := by decide +kernel
theorem dX2_arrives_36 : decode cX2_arrives 36 = .ok (.getfield 7, 3) := by decide +kernel
theorem dX2_arrives_39 : decode cX2_arrives 39 = .ok (.iload_n 2, 1) := by decide +kernel
theorem dX2_arrives_40 : decode cX2_arrives 40 = .ok (.iaload, 1) := by decide +kernel
theorem dX2_arrives_41 : decode cX2_arrives 41 = .ok (.invokestatic 54, 3) := by decide +kernel
theorem dX2_arrives_44 : decode cX2_arrives 44 = .ok (.ifCond .ne 10, 3) := by decide +kernel
theorem dX2_arrives_47 : decode cX2_arrives 47 = .ok (.aload_n 0, 1) := by decide +kernel
theorem dX2_arrives_48 : decode cX2_arrives 48 = .ok (.iload_n 1, 1) := by decide +kernel
theorem dX2_arrives_49 : decode cX2_arrives 49 = .ok (.iload_n 2, 1) := by decide +kernel
theorem dX2_arrives_50 : decode cX2_arrives 50 = .ok (.iload_n 3, 1) := by decide +kernel
theorem dX2_arrives_51 : decode cX2_arrives 51 = .ok (.invokevirtual 96, 3) := by decide +kernel
theorem dX2_arrives_54 : decode cX2_arrives 54 = .ok (.return_, 1) := by decide +kernel
set_option maxRecDepth 20000 in
theorem ggX2_arrivesGrant_X2_has : GoodIn wsX2_arrivesGrant wsX2_has := goodIn_r _ [6] (by decide +kernel) (by decide +kernel)
set_option maxRecDepth 20000 in
theorem gX2_arrivesGrant_X2_has : GoodIn wsX2_arrivesGrant (va_wsS RX2 54 yX2_has wsX2_has) := goodIn_app (goodIn_of _ (by decide +kernel)) ggX2_arrivesGrant_X2_has
set_option maxRecDepth 20000 in
theorem ggX2_arrivesGrant_X2_areNeighbours : GoodIn wsX2_arrivesGrant wsX2_areNeighbours := goodIn_r _ [10, 11, 34, 35, 36, 37, 38, 39, 40, 41, 42, 43, 44, 45, 46] (by decide +kernel) (by decide +kernel)
set_option maxRecDepth 20000 in
theorem gX2_arrivesGrant_X2_areNeighbours : GoodIn wsX2_arrivesGrant (wsV RX2 67 RX2 yX2_areNeighbours wsX2_areNeighbours) := goodIn_app (goodIn_of _ (by decide +kernel)) ggX2_arrivesGrant_X2_areNeighbours
set_option maxRecDepth 20000 in
theorem ggX2_arrivesGrant_X2_sends : GoodIn wsX2_arrivesGrant wsX2_sends := goodIn_r _ [15, 16, 17, 18, 19, 34, 35, 36, 37, 38, 39, 40, 41, 42, 43, 44, 45, 46] (by decide +kernel) (by decide +kernel)
set_option maxRecDepth 20000 in
theorem gX2_arrivesGrant_X2_sends : GoodIn wsX2_arrivesGrant (wsV RX2 77 RX2 yX2_sends wsX2_sends) := goodIn_app (goodIn_of _ (by decide +kernel)) ggX2_arrivesGrant_X2_sends
set_option maxRecDepth 20000 in
theorem ggX2_arrivesGrant_X2_adds : GoodIn wsX2_arrivesGrant wsX2_adds := goodIn_r _ [23, 24, 25, 26, 27, 28, 5, 29, 30, 31, 32, 33, 34, 35, 36, 37, 38, 39, 40, 41, 42, 43, 44, 45, 46] (by decide +kernel) (by decide +kernel)
set_option maxRecDepth 20000 in
theorem gX2_arrivesGrant_X2_adds : GoodIn wsX2_arrivesGrant (wsV RX2 70 RX2 yX2_adds wsX2_adds) := goodIn_app (goodIn_of _ (by decide +kernel)) ggX2_arrivesGrant_X2_adds
theorem dX2_arrivesGrant_0 : decode cX2_arrivesGrant 0 = .ok (.aload_n 0, 1) := by decide +kernel
theorem dX2_arrivesGrant_1 : decode cX2_arrivesGrant 1 = .ok (.getfield 61, 3) := by decide +kernel
theorem dX2_arrivesGrant_4 : decode cX2_arrivesGrant 4 = .ok (.iload_n 2, 1) := by decide +kernel
theorem dX2_arrivesGrant_5 : decode cX2_arrivesGrant 5 = .ok (.invokestatic 54, 3) := by decide +kernel
theorem dX2_arrivesGrant_8 : decode cX2_arrivesGrant 8 = .ok (.ifCond .eq 36, 3) := by decide +kernel
theorem dX2_arrivesGrant_11 : decode cX2_arrivesGrant 11 = .ok (.aload_n 0, 1) := by decide +kernel
theorem dX2_arrivesGrant_12 : decode cX2_arrivesGrant 12 = .ok (.iload_n 2, 1) := by decide +kernel
theorem dX2_arrivesGrant_13 : decode cX2_arrivesGrant 13 = .ok (.iload_n 1, 1) := by decide +kernel
theorem dX2_arrivesGrant_14 : decode cX2_arrivesGrant 14 = .ok (.invokevirtual 67, 3) := by decide +kernel
theorem dX2_arrivesGrant_17 : decode cX2_arrivesGrant 17 = .ok (.ifCond .eq 16, 3) := by decide +kernel
theorem dX2_arrivesGrant_20 : decode cX2_arrivesGrant 20 = .ok (.aload_n 0, 1) := by decide +kernel
theorem dX2_arrivesGrant_21 : decode cX2_arrivesGrant 21 = .ok (.getfield 17, 3) := by decide +kernel
theorem dX2_arrivesGrant_24 : decode cX2_arrivesGrant 24 = .ok (.iload_n 1, 1) := by decide +kernel
theorem dX2_arrivesGrant_25 : decode cX2_arrivesGrant 25 = .ok (.dup2, 1) := by decide +kernel
theorem dX2_arrivesGrant_26 : decode cX2_arrivesGrant 26 = .ok (.iaload, 1) := by decide +kernel
theorem dX2_arrivesGrant_27 : decode cX2_arrivesGrant 27 = .ok (.iload_n 3, 1) := by decide +kernel
theorem dX2_arrivesGrant_28 : decode cX2_arrivesGrant 28 = .ok (.isub, 1) := by decide +kernel
theorem dX2_arrivesGrant_29 : decode cX2_arrivesGrant 29 = .ok (.iastore, 1) := by decide +kernel
theorem dX2_arrivesGrant_30 : decode cX2_arrivesGrant 30 = .ok (.goto 50, 3) := by decide +kernel
theorem dX2_arrivesGrant_33 : decode cX2_arrivesGrant 33 = .ok (.aload_n 0, 1) := by decide +kernel
theorem dX2_arrivesGrant_34 : decode cX2_arrivesGrant 34 = .ok (.iload_n 1, 1) := by decide +kernel
theorem dX2_arrivesGrant_35 : decode cX2_arrivesGrant 35 = .ok (.bipush (-9), 2) := by decide +kernel
theorem dX2_arrivesGrant_37 : decode cX2_arrivesGrant 37 = .ok (.iload_n 3, 1) := by decide +kernel
theorem dX2_arrivesGrant_38 : decode cX2_arrivesGrant 38 = .ok (.invokevirtual 77, 3) := by decide +kernel
theorem dX2_arrivesGrant_41 : decode cX2_arrivesGrant 41 = .ok (.goto 39, 3) := by decide +kernel
theorem dX2_arrivesGrant_44 : decode cX2_arrivesGrant 44 = .ok (.aload_n 0, 1) := by decide +kernel
theorem dX2_arrivesGrant_45 : decode cX2_arrivesGrant 45 = .ok (.iload_n 2, 1) := by decide +kernel
theorem dX2_arrivesGrant_46 : decode cX2_arrivesGrant 46 = .ok (.iload_n 1, 1) := by decide +kernel
theorem dX2_arrivesGrant_47 : decode cX2_arrivesGrant 47 = .ok (.invokevirtual 67, 3) := by decide +kernel
theorem dX2_arrivesGrant_50 : decode cX2_arrivesGrant 50 = .ok (.ifCond .eq 23, 3) := by decide +kernel
theorem dX2_arrivesGrant_53 : decode cX2_arrivesGrant 53 = .ok (.aload_n 0, 1) := by decide +kernel
theorem dX2_arrivesGrant_54 : decode cX2_arrivesGrant 54 = .ok (.getfield 17, 3) := by decide +kernel
theorem dX2_arrivesGrant_57 : decode cX2_arrivesGrant 57 = .ok (.iload_n 1, 1) := by decide +kernel
theorem dX2_arrivesGrant_58 : decode cX2_arrivesGrant 58 = .ok (.dup2, 1) := by decide +kernel
theorem dX2_arrivesGrant_59 : decode cX2_arrivesGrant 59 = .ok (.iaload, 1) := by decide +kernel
theorem dX2_arrivesGrant_60 : decode cX2_arrivesGrant 60 = .ok (.iload_n 3, 1) := by decide +kernel
theorem dX2_arrivesGrant_61 : decode cX2_arrivesGrant 61 = .ok (.isub, 1) := by decide +kernel
theorem dX2_arrivesGrant_62 : decode cX2_arrivesGrant 62 = .ok (.iastore, 1) := by decide +kernel
theorem dX2_arrivesGrant_63 : decode cX2_arrivesGrant 63 = .ok (.aload_n 0, 1) := by decide +kernel
theorem dX2_arrivesGrant_64 : decode cX2_arrivesGrant 64 = .ok (.iload_n 2, 1) := by decide +kernel
theorem dX2_arrivesGrant_65 : decode cX2_arrivesGrant 65 = .ok (.iload_n 1, 1) := by decide +kernel
theorem dX2_arrivesGrant_66 : decode cX2_arrivesGrant 66 = .ok (.iconst 0, 1) := by decide +kernel
theorem dX2_arrivesGrant_67 : decode cX2_arrivesGrant 67 = .ok (.invokevirtual 70, 3) := by decide +kernel
theorem dX2_arrivesGrant_70 : decode cX2_arrivesGrant 70 = .ok (.goto 10, 3) := by decide +kernel
theorem dX2_arrivesGrant_73 : decode cX2_arrivesGrant 73 = .ok (.aload_n 0, 1) := by decide +kernel
theorem dX2_arrivesGrant_74 : decode cX2_arrivesGrant 74 = .ok (.iload_n 2, 1) := by decide +kernel
theorem dX2_arrivesGrant_75 : decode cX2_arrivesGrant 75 = .ok (.iload_n 1, 1) := by decide +kernel
theorem dX2_arrivesGrant_76 : decode cX2_arrivesGrant 76 = .ok (.iload_n 3, 1) := by decide +kernel
theorem dX2_arrivesGrant_77 : decode cX2_arrivesGrant 77 = .ok (.invokevirtual 70, 3) := by decide +kernel
theorem dX2_arrivesGrant_80 : decode cX2_arrivesGrant 80 = .ok (.return_, 1) := by decide +kernel
set_option maxRecDepth 20000 in
theorem ggX2_delivers_X2_arrives : GoodIn wsX2_delivers wsX2_arrives := goodIn_r _ [9, 10, 11, 12, 13, 14, 15, 8, 16, 17, 18, 19, 20, 21, 22, 23, 24, 25, 26, 27, 28, 1, 4, 2, 3, 29, 30, 31, 32, 33, 34, 35, 36, 37, 38, 39, 40, 41, 42, 43, 44, 45, 46, 47, 48, 49, 50, 51, 52, 53, 54, 55] (by decide +kernel) (by decide +kernel)
set_option maxRecDepth 20000 in
theorem gX2_delivers_X2_arrives : GoodIn wsX2_delivers (wsV RX2 99 RX2 yX2_arrives wsX2_arrives) := goodIn_app (goodIn_of _ (by decide +kernel)) ggX2_delivers_X2_arrives
theorem dX2_delivers_0 : decode cX2_delivers 0 = .ok (.aload_n 0, 1) := by decide +kernel
theorem dX2_delivers_1 : decode cX2_delivers 1 = .ok (.getfield 26, 3) := by decide +kernel
theorem dX2_delivers_4 : decode cX2_delivers 4 = .ok (.iload_n 1, 1) := by decide +kernel
theorem dX2_delivers_5 : decode cX2_delivers 5 = .ok (.iaload, 1) := by decide +kernel
theorem dX2_delivers_6 : decode cX2_delivers 6 = .ok (.istore_n 2, 1) := by decide +kernel
theorem dX2_delivers_7 : decode cX2_delivers 7 = .ok (.aload_n 0, 1) := by decide +kernel
theorem dX2_delivers_8 : decode cX2_delivers 8 = .ok (.getfield 29, 3) := by decide +kernel
theorem dX2_delivers_11 : decode cX2_delivers 11 = .ok (.iload_n 1, 1) := by decide +kernel
theorem dX2_delivers_12 : decode cX2_delivers 12 = .ok (.iaload, 1) := by decide +kernel
theorem dX2_delivers_13 : decode cX2_delivers 13 = .ok (.istore_n 3, 1) := by decide +kernel
theorem dX2_delivers_14 : decode cX2_delivers 14 = .ok (.aload_n 0, 1) := by decide +kernel
theorem dX2_delivers_15 : decode cX2_delivers 15 = .ok (.getfield 32, 3) := by decide +kernel
theorem dX2_delivers_18 : decode cX2_delivers 18 = .ok (.iload_n 1, 1) := by decide +kernel
theorem dX2_delivers_19 : decode cX2_delivers 19 = .ok (.iaload, 1) := by decide +kernel
theorem dX2_delivers_20 : decode cX2_delivers 20 = .ok (.istore 4, 2) := by decide +kernel
theorem dX2_delivers_22 : decode cX2_delivers 22 = .ok (.aload_n 0, 1) := by decide +kernel
theorem dX2_delivers_23 : decode cX2_delivers 23 = .ok (.dup, 1) := by decide +kernel
theorem dX2_delivers_24 : decode cX2_delivers 24 = .ok (.getfield 74, 3) := by decide +kernel
theorem dX2_delivers_27 : decode cX2_delivers 27 = .ok (.iconst 1, 1) := by decide +kernel
theorem dX2_delivers_28 : decode cX2_delivers 28 = .ok (.isub, 1) := by decide +kernel
theorem dX2_delivers_29 : decode cX2_delivers 29 = .ok (.putfield 74, 3) := by decide +kernel
theorem dX2_delivers_32 : decode cX2_delivers 32 = .ok (.iload_n 1, 1) := by decide +kernel
theorem dX2_delivers_33 : decode cX2_delivers 33 = .ok (.istore 5, 2) := by decide +kernel
theorem dX2_delivers_35 : decode cX2_delivers 35 = .ok (.iload 5, 2) := by decide +kernel
theorem dX2_delivers_37 : decode cX2_delivers 37 = .ok (.aload_n 0, 1) := by decide +kernel
theorem dX2_delivers_38 : decode cX2_delivers 38 = .ok (.getfield 74, 3) := by decide +kernel
theorem dX2_delivers_41 : decode cX2_delivers 41 = .ok (.if_icmp .ge 57, 3) := by decide +kernel
theorem dX2_delivers_44 : decode cX2_delivers 44 = .ok (.aload_n 0, 1) := by decide +kernel
theorem dX2_delivers_45 : decode cX2_delivers 45 = .ok (.getfield 26, 3) := by decide +kernel
theorem dX2_delivers_48 : decode cX2_delivers 48 = .ok (.iload 5, 2) := by decide +kernel
theorem dX2_delivers_50 : decode cX2_delivers 50 = .ok (.aload_n 0, 1) := by decide +kernel
theorem dX2_delivers_51 : decode cX2_delivers 51 = .ok (.getfield 26, 3) := by decide +kernel
theorem dX2_delivers_54 : decode cX2_delivers 54 = .ok (.iload 5, 2) := by decide +kernel
theorem dX2_delivers_56 : decode cX2_delivers 56 = .ok (.iconst 1, 1) := by decide +kernel
theorem dX2_delivers_57 : decode cX2_delivers 57 = .ok (.iadd, 1) := by decide +kernel
theorem dX2_delivers_58 : decode cX2_delivers 58 = .ok (.iaload, 1) := by decide +kernel
theorem dX2_delivers_59 : decode cX2_delivers 59 = .ok (.iastore, 1) := by decide +kernel
theorem dX2_delivers_60 : decode cX2_delivers 60 = .ok (.aload_n 0, 1) := by decide +kernel
theorem dX2_delivers_61 : decode cX2_delivers 61 = .ok (.getfield 29, 3) := by decide +kernel
theorem dX2_delivers_64 : decode cX2_delivers 64 = .ok (.iload 5, 2) := by decide +kernel
theorem dX2_delivers_66 : decode cX2_delivers 66 = .ok (.aload_n 0, 1) := by decide +kernel
theorem dX2_delivers_67 : decode cX2_delivers 67 = .ok (.getfield 29, 3) := by decide +kernel
theorem dX2_delivers_70 : decode cX2_delivers 70 = .ok (.iload 5, 2) := by decide +kernel
theorem dX2_delivers_72 : decode cX2_delivers 72 = .ok (.iconst 1, 1) := by decide +kernel
theorem dX2_delivers_73 : decode cX2_delivers 73 = .ok (.iadd, 1) := by decide +kernel
theorem dX2_delivers_74 : decode cX2_delivers 74 = .ok (.iaload, 1) := by decide +kernel
theorem dX2_delivers_75 : decode cX2_delivers 75 = .ok (.iastore, 1) := by decide +kernel
theorem dX2_delivers_76 : decode cX2_delivers 76 = .ok (.aload_n 0, 1) := by decide +kernel
theorem dX2_delivers_77 : decode cX2_delivers 77 = .ok (.getfield 32, 3) := by decide +kernel
theorem dX2_delivers_80 : decode cX2_delivers 80 = .ok (.iload 5, 2) := by decide +kernel
theorem dX2_delivers_82 : decode cX2_delivers 82 = .ok (.aload_n 0, 1) := by decide +kernel
theorem dX2_delivers_83 : decode cX2_delivers 83 = .ok (.getfield 32, 3) := by decide +kernel
theorem dX2_delivers_86 : decode cX2_delivers 86 = .ok (.iload 5, 2) := by decide +kernel
theorem dX2_delivers_88 : decode cX2_delivers 88 = .ok (.iconst 1, 1) := by decide +kernel
theorem dX2_delivers_89 : decode cX2_delivers 89 = .ok (.iadd, 1) := by decide +kernel
theorem dX2_delivers_90 : decode cX2_delivers 90 = .ok (.iaload, 1) := by decide +kernel
theorem dX2_delivers_91 : decode cX2_delivers 91 = .ok (.iastore, 1) := by decide +kernel
theorem dX2_delivers_92 : decode cX2_delivers 92 = .ok (.iinc 5 1, 3) := by decide +kernel
theorem dX2_delivers_95 : decode cX2_delivers 95 = .ok (.goto (-60), 3) := by decide +kernel
theorem dX2_delivers_98 : decode cX2_delivers 98 = .ok (.aload_n 0, 1) := by decide +kernel
theorem dX2_delivers_99 : decode cX2_delivers 99 = .ok (.iload_n 2, 1) := by decide +kernel
theorem dX2_delivers_100 : decode cX2_delivers 100 = .ok (.iload_n 3, 1) := by decide +kernel
theorem dX2_delivers_101 : decode cX2_delivers 101 = .ok (.iload 4, 2) := by decide +kernel
theorem dX2_delivers_103 : decode cX2_delivers 103 = .ok (.invokevirtual 99, 3) := by decide +kernel
theorem dX2_delivers_106 : decode cX2_delivers 106 = .ok (.iload_n 3, 1) := by decide +kernel
theorem dX2_delivers_107 : decode cX2_delivers 107 = .ok (.bipush (-9), 2) := by decide +kernel
theorem dX2_delivers_109 : decode cX2_delivers 109 = .ok (.if_icmp .ne 7, 3) := by decide +kernel
theorem dX2_delivers_112 : decode cX2_delivers 112 = .ok (.iconst 1, 1) := by decide +kernel
theorem dX2_delivers_113 : decode cX2_delivers 113 = .ok (.goto 4, 3) := by decide +kernel
theorem dX2_delivers_116 : decode cX2_delivers 116 = .ok (.iconst 0, 1) := by decide +kernel
theorem dX2_delivers_117 : decode cX2_delivers 117 = .ok (.ireturn, 1) := by decide +kernel
set_option maxRecDepth 20000 in
theorem ggX2_isLetter_X2_within : GoodIn wsX2_isLetter wsX2_within := goodIn_r _ [5] (by decide +kernel) (by decide +kernel)
set_option maxRecDepth 20000 in
theorem gX2_isLetter_X2_within : GoodIn wsX2_isLetter (va_wsS RX2 35 yX2_within wsX2_within) := goodIn_app (goodIn_of _ (by decide +kernel)) ggX2_isLetter_X2_within
theorem dX2_isLetter_0 : decode cX2_isLetter 0 = .ok (.iload_n 1, 1) := by decide +kernel
theorem dX2_isLetter_1 : decode cX2_isLetter 1 = .ok (.iconst 0, 1) := by decide +kernel
theorem dX2_isLetter_2 : decode cX2_isLetter 2 = .ok (.aload_n 0, 1) := by decide +kernel
theorem dX2_isLetter_3 : decode cX2_isLetter 3 = .ok (.getfield 74, 3) := by decide +kernel
theorem dX2_isLetter_6 : decode cX2_isLetter 6 = .ok (.iconst 1, 1) := by decide +kernel
theorem dX2_isLetter_7 : decode cX2_isLetter 7 = .ok (.isub, 1) := by decide +kernel
theorem dX2_isLetter_8 : decode cX2_isLetter 8 = .ok (.invokestatic 35, 3) := by decide +kernel
theorem dX2_isLetter_11 : decode cX2_isLetter 11 = .ok (.ireturn, 1) := by decide +kernel
set_option maxRecDepth 20000 in
theorem ggX2_deliver_X2_isLetter : GoodIn wsX2_deliver wsX2_isLetter := goodIn_r _ [5, 6, 7, 8, 4, 9, 54, 55, 56, 57, 58, 59, 60, 61, 62, 63, 64, 65, 66] (by decide +kernel) (by decide +kernel)
set_option maxRecDepth 20000 in
theorem gX2_deliver_X2_isLetter : GoodIn wsX2_deliver (wsV RX2 102 RX2 yX2_isLetter wsX2_isLetter) := goodIn_app (goodIn_of _ (by decide +kernel)) ggX2_deliver_X2_isLetter
set_option maxRecDepth 20000 in
theorem ggX2_deliver_X2_delivers : GoodIn wsX2_deliver wsX2_delivers := goodIn_r _ [13, 14, 15, 16, 6, 17, 18, 19, 4, 20, 21, 22, 23, 24, 25, 26, 27, 28, 29, 30, 31, 32, 33, 34, 35, 36, 37, 38, 39, 40, 41, 42, 43, 44, 45, 46, 47, 48, 49, 50, 51, 52, 53, 54, 55, 56, 57, 58, 59, 60, 61, 62, 63, 64, 65, 66] (by decide +kernel) (by decide +kernel)
set_option maxRecDepth 20000 in
theorem gX2_deliver_X2_delivers : GoodIn wsX2_deliver (wsV RX2 105 RX2 yX2_delivers wsX2_delivers) := goodIn_app (goodIn_of _ (by decide +kernel)) ggX2_deliver_X2_delivers
theorem dX2_deliver_0 : decode cX2_deliver 0 = .ok (.aload_n 0, 1) := by decide +kernel
theorem dX2_deliver_1 : decode cX2_deliver 1 = .ok (.iload_n 1, 1) := by decide +kernel
theorem dX2_deliver_2 : decode cX2_deliver 2 = .ok (.invokevirtual 102, 3) := by decide +kernel
theorem dX2_deliver_5 : decode cX2_deliver 5 = .ok (.ifCond .ne 7, 3) := by decide +kernel
theorem dX2_deliver_8 : decode cX2_deliver 8 = .ok (.iconst (-1), 1) := by decide +kernel
theorem dX2_deliver_9 : decode cX2_deliver 9 = .ok (.goto 16, 3) := by decide +kernel
theorem dX2_deliver_12 : decode cX2_deliver 12 = .ok (.aload_n 0, 1) := by decide +kernel
theorem dX2_deliver_13 : decode cX2_deliver 13 = .ok (.iload_n 1, 1) := by decide +kernel
theorem dX2_deliver_14 : decode cX2_deliver 14 = .ok (.invokevirtual 105, 3) := by decide +kernel
theorem dX2_deliver_17 : decode cX2_deliver 17 = .ok (.ifCond .eq 7, 3) := by decide +kernel
theorem dX2_deliver_20 : decode cX2_deliver 20 = .ok (.iconst 1, 1) := by decide +kernel
theorem dX2_deliver_21 : decode cX2_deliver 21 = .ok (.goto 4, 3) := by decide +kernel
theorem dX2_deliver_24 : decode cX2_deliver 24 = .ok (.iconst 0, 1) := by decide +kernel
theorem dX2_deliver_25 : decode cX2_deliver 25 = .ok (.ireturn, 1) := by decide +kernel
set_option maxRecDepth 20000 in
theorem ggX2_letter_X2_isLetter : GoodIn wsX2_letter wsX2_isLetter := goodIn_r _ [8, 9, 10, 11, 7, 12, 18, 19, 20, 21, 22, 23, 24, 25, 26, 27, 28, 29, 30] (by decide +kernel) (by decide +kernel)
set_option maxRecDepth 20000 in
theorem gX2_letter_X2_isLetter : GoodIn wsX2_letter (wsV RX2 102 RX2 yX2_isLetter wsX2_isLetter) := goodIn_app (goodIn_of _ (by decide +kernel)) ggX2_letter_X2_isLetter
set_option maxRecDepth 20000 in
theorem ggX2_letter_X2_hostFor : GoodIn wsX2_letter wsX2_hostFor := goodIn_r _ [16, 1, 17, 3, 18, 19, 20, 21, 22, 23, 24, 25, 26, 27, 28, 29, 30] (by decide +kernel) (by decide +kernel)
set_option maxRecDepth 20000 in
theorem gX2_letter_X2_hostFor : GoodIn wsX2_letter (wsV RX2 108 RX2 yX2_hostFor wsX2_hostFor) := goodIn_app (goodIn_of _ (by decide +kernel)) ggX2_letter_X2_hostFor
theorem dX2_letter_0 : decode cX2_letter 0 = .ok (.aload_n 0, 1) := by decide +kernel
theorem dX2_letter_1 : decode cX2_letter 1 = .ok (.iload_n 1, 1) := by decide +kernel
theorem dX2_letter_2 : decode cX2_letter 2 = .ok (.invokevirtual 102, 3) := by decide +kernel
theorem dX2_letter_5 : decode cX2_letter 5 = .ok (.ifCond .ne 5, 3) := by decide +kernel
theorem dX2_letter_8 : decode cX2_letter 8 = .ok (.iconst (-1), 1) := by decide +kernel
theorem dX2_letter_9 : decode cX2_letter 9 = .ok (.ireturn, 1) := by decide +kernel
theorem dX2_letter_10 : decode cX2_letter 10 = .ok (.iload_n 2, 1) := by decide +kernel
theorem dX2_letter_11 : decode cX2_letter 11 = .ok (.tableswitch 77 0 4 #[33, 50, 56, 63, 70], 33) := by decide +kernel
theorem dX2_letter_44 : decode cX2_letter 44 = .ok (.aload_n 0, 1) := by decide +kernel
theorem dX2_letter_45 : decode cX2_letter 45 = .ok (.getfield 29, 3) := by decide +kernel
theorem dX2_letter_48 : decode cX2_letter 48 = .ok (.iload_n 1, 1) := by decide +kernel
theorem dX2_letter_49 : decode cX2_letter 49 = .ok (.iaload, 1) := by decide +kernel
theorem dX2_letter_50 : decode cX2_letter 50 = .ok (.bipush (-9), 2) := by decide +kernel
theorem dX2_letter_52 : decode cX2_letter 52 = .ok (.if_icmp .ne 7, 3) := by decide +kernel
theorem dX2_letter_55 : decode cX2_letter 55 = .ok (.iconst 1, 1) := by decide +kernel
theorem dX2_letter_56 : decode cX2_letter 56 = .ok (.goto 4, 3) := by decide +kernel
theorem dX2_letter_59 : decode cX2_letter 59 = .ok (.iconst 0, 1) := by decide +kernel
theorem dX2_letter_60 : decode cX2_letter 60 = .ok (.ireturn, 1) := by decide +kernel
theorem dX2_letter_61 : decode cX2_letter 61 = .ok (.aload_n 0, 1) := by decide +kernel
theorem dX2_letter_62 : decode cX2_letter 62 = .ok (.iload_n 1, 1) := by decide +kernel
theorem dX2_letter_63 : decode cX2_letter 63 = .ok (.invokevirtual 108, 3) := by decide +kernel
theorem dX2_letter_66 : decode cX2_letter 66 = .ok (.ireturn, 1) := by decide +kernel
theorem dX2_letter_67 : decode cX2_letter 67 = .ok (.aload_n 0, 1) := by decide +kernel
theorem dX2_letter_68 : decode cX2_letter 68 = .ok (.getfield 32, 3) := by decide +kernel
theorem dX2_letter_71 : decode cX2_letter 71 = .ok (.iload_n 1, 1) := by decide +kernel
theorem dX2_letter_72 : decode cX2_letter 72 = .ok (.iaload, 1) := by decide +kernel
theorem dX2_letter_73 : decode cX2_letter 73 = .ok (.ireturn, 1) := by decide +kernel
theorem dX2_letter_74 : decode cX2_letter 74 = .ok (.aload_n 0, 1) := by decide +kernel
theorem dX2_letter_75 : decode cX2_letter 75 = .ok (.getfield 26, 3) := by decide +kernel
theorem dX2_letter_78 : decode cX2_letter 78 = .ok (.iload_n 1, 1) := by decide +kernel
theorem dX2_letter_79 : decode cX2_letter 79 = .ok (.iaload, 1) := by decide +kernel
theorem dX2_letter_80 : decode cX2_letter 80 = .ok (.ireturn, 1) := by decide +kernel
theorem dX2_letter_81 : decode cX2_letter 81 = .ok (.aload_n 0, 1) := by decide +kernel
theorem dX2_letter_82 : decode cX2_letter 82 = .ok (.getfield 29, 3) := by decide +kernel
theorem dX2_letter_85 : decode cX2_letter 85 = .ok (.iload_n 1, 1) := by decide +kernel
theorem dX2_letter_86 : decode cX2_letter 86 = .ok (.iaload, 1) := by decide +kernel
theorem dX2_letter_87 : decode cX2_letter 87 = .ok (.ireturn, 1) := by decide +kernel
theorem dX2_letter_88 : decode cX2_letter 88 = .ok (.bipush (-2), 2) := by decide +kernel
theorem dX2_letter_90 : decode cX2_letter 90 = .ok (.ireturn, 1) := by decide +kernel
set_option maxRecDepth 20000 in
theorem ggX2_onHost_X2_has : GoodIn wsX2_onHost wsX2_has := goodIn_r _ [7] (by decide +kernel) (by decide +kernel)
set_option maxRecDepth 20000 in
theorem gX2_onHost_X2_has : GoodIn wsX2_onHost (va_wsS RX2 54 yX2_has wsX2_has) := goodIn_app (goodIn_of _ (by decide +kernel)) ggX2_onHost_X2_has
theorem dX2_onHost_0 : decode cX2_onHost 0 = .ok (.iconst 0, 1) := by decide +kernel
theorem dX2_onHost_1 : decode cX2_onHost 1 = .ok (.istore_n 2, 1) := by decide +kernel
theorem dX2_onHost_2 : decode cX2_onHost 2 = .ok (.iconst 0, 1) := by decide +kernel
theorem dX2_onHost_3 : decode cX2_onHost 3 = .ok (.istore_n 3, 1) := by decide +kernel
theorem dX2_onHost_4 : decode cX2_onHost 4 = .ok (.iload_n 3, 1) := by decide +kernel
theorem dX2_onHost_5 : decode cX2_onHost 5 = .ok (.aload_n 0, 1) := by decide +kernel
theorem dX2_onHost_6 : decode cX2_onHost 6 = .ok (.getfield 39, 3) := by decide +kernel
theorem dX2_onHost_9 : decode cX2_onHost 9 = .ok (.if_icmp .ge 40, 3) := by decide +kernel
theorem dX2_onHost_12 : decode cX2_onHost 12 = .ok (.iload_n 2, 1) := by decide +kernel
theorem dX2_onHost_13 : decode cX2_onHost 13 = .ok (.aload_n 0, 1) := by decide +kernel
theorem dX2_onHost_14 : decode cX2_onHost 14 = .ok (.getfield 7, 3) := by decide +kernel
theorem dX2_onHost_17 : decode cX2_onHost 17 = .ok (.iload_n 3, 1) := by decide +kernel
theorem dX2_onHost_18 : decode cX2_onHost 18 = .ok (.iaload, 1) := by decide +kernel
theorem dX2_onHost_19 : decode cX2_onHost 19 = .ok (.iload_n 1, 1) := by decide +kernel
theorem dX2_onHost_20 : decode cX2_onHost 20 = .ok (.if_icmp .ne 20, 3) := by decide +kernel
theorem dX2_onHost_23 : decode cX2_onHost 23 = .ok (.aload_n 0, 1) := by decide +kernel
theorem dX2_onHost_24 : decode cX2_onHost 24 = .ok (.getfield 61, 3) := by decide +kernel
theorem dX2_onHost_27 : decode cX2_onHost 27 = .ok (.iload_n 3, 1) := by decide +kernel
theorem dX2_onHost_28 : decode cX2_onHost 28 = .ok (.invokestatic 54, 3) := by decide +kernel
theorem dX2_onHost_31 : decode cX2_onHost 31 = .ok (.ifCond .ne 9, 3) := by decide +kernel
theorem dX2_onHost_34 : decode cX2_onHost 34 = .ok (.iconst 1, 1) := by decide +kernel
theorem dX2_onHost_35 : decode cX2_onHost 35 = .ok (.iload_n 3, 1) := by decide +kernel
theorem dX2_onHost_36 : decode cX2_onHost 36 = .ok (.ishl, 1) := by decide +kernel
theorem dX2_onHost_37 : decode cX2_onHost 37 = .ok (.goto 4, 3) := by decide +kernel
theorem dX2_onHost_40 : decode cX2_onHost 40 = .ok (.iconst 0, 1) := by decide +kernel
theorem dX2_onHost_41 : decode cX2_onHost 41 = .ok (.ior, 1) := by decide +kernel
theorem dX2_onHost_42 : decode cX2_onHost 42 = .ok (.istore_n 2, 1) := by decide +kernel
theorem dX2_onHost_43 : decode cX2_onHost 43 = .ok (.iinc 3 1, 3) := by decide +kernel
theorem dX2_onHost_46 : decode cX2_onHost 46 = .ok (.goto (-42), 3) := by decide +kernel
theorem dX2_onHost_49 : decode cX2_onHost 49 = .ok (.iload_n 2, 1) := by decide +kernel
theorem dX2_onHost_50 : decode cX2_onHost 50 = .ok (.ireturn, 1) := by decide +kernel
set_option maxRecDepth 20000 in
theorem ggX2_rootsOf_X2_has : GoodIn wsX2_rootsOf wsX2_has := goodIn_r _ [6] (by decide +kernel) (by decide +kernel)
set_option maxRecDepth 20000 in
theorem gX2_rootsOf_X2_has : GoodIn wsX2_rootsOf (va_wsS RX2 54 yX2_has wsX2_has) := goodIn_app (goodIn_of _ (by decide +kernel)) ggX2_rootsOf_X2_has
theorem dX2_rootsOf_0 : decode cX2_rootsOf 0 = .ok (.iconst 0, 1) := by decide +kernel
theorem dX2_rootsOf_1 : decode cX2_rootsOf 1 = .ok (.istore_n 2, 1) := by decide +kernel
theorem dX2_rootsOf_2 : decode cX2_rootsOf 2 = .ok (.iconst 0, 1) := by decide +kernel
theorem dX2_rootsOf_3 : decode cX2_rootsOf 3 = .ok (.istore_n 3, 1) := by decide +kernel
theorem dX2_rootsOf_4 : decode cX2_rootsOf 4 = .ok (.iload_n 3, 1) := by decide +kernel
theorem dX2_rootsOf_5 : decode cX2_rootsOf 5 = .ok (.aload_n 0, 1) := by decide +kernel
theorem dX2_rootsOf_6 : decode cX2_rootsOf 6 = .ok (.getfield 39, 3) := by decide +kernel
theorem dX2_rootsOf_9 : decode cX2_rootsOf 9 = .ok (.if_icmp .ge 36, 3) := by decide +kernel
theorem dX2_rootsOf_12 : decode cX2_rootsOf 12 = .ok (.iload_n 2, 1) := by decide +kernel
theorem dX2_rootsOf_13 : decode cX2_rootsOf 13 = .ok (.iload_n 1, 1) := by decide +kernel
theorem dX2_rootsOf_14 : decode cX2_rootsOf 14 = .ok (.iload_n 3, 1) := by decide +kernel
theorem dX2_rootsOf_15 : decode cX2_rootsOf 15 = .ok (.invokestatic 54, 3) := by decide +kernel
theorem dX2_rootsOf_18 : decode cX2_rootsOf 18 = .ok (.ifCond .eq 18, 3) := by decide +kernel
theorem dX2_rootsOf_21 : decode cX2_rootsOf 21 = .ok (.aload_n 0, 1) := by decide +kernel
theorem dX2_rootsOf_22 : decode cX2_rootsOf 22 = .ok (.getfield 13, 3) := by decide +kernel
theorem dX2_rootsOf_25 : decode cX2_rootsOf 25 = .ok (.iload_n 3, 1) := by decide +kernel
theorem dX2_rootsOf_26 : decode cX2_rootsOf 26 = .ok (.baload, 1) := by decide +kernel
theorem dX2_rootsOf_27 : decode cX2_rootsOf 27 = .ok (.ifCond .eq 9, 3) := by decide +kernel
theorem dX2_rootsOf_30 : decode cX2_rootsOf 30 = .ok (.iconst 1, 1) := by decide +kernel
theorem dX2_rootsOf_31 : decode cX2_rootsOf 31 = .ok (.iload_n 3, 1) := by decide +kernel
theorem dX2_rootsOf_32 : decode cX2_rootsOf 32 = .ok (.ishl, 1) := by decide +kernel
theorem dX2_rootsOf_33 : decode cX2_rootsOf 33 = .ok (.goto 4, 3) := by decide +kernel
theorem dX2_rootsOf_36 : decode cX2_rootsOf 36 = .ok (.iconst 0, 1) := by decide +kernel
theorem dX2_rootsOf_37 : decode cX2_rootsOf 37 = .ok (.ior, 1) := by decide +kernel
theorem dX2_rootsOf_38 : decode cX2_rootsOf 38 = .ok (.istore_n 2, 1) := by decide +kernel
theorem dX2_rootsOf_39 : decode cX2_rootsOf 39 = .ok (.iinc 3 1, 3) := by decide +kernel
theorem dX2_rootsOf_42 : decode cX2_rootsOf 42 = .ok (.goto (-38), 3) := by decide +kernel
theorem dX2_rootsOf_45 : decode cX2_rootsOf 45 = .ok (.iload_n 2, 1) := by decide +kernel
theorem dX2_rootsOf_46 : decode cX2_rootsOf 46 = .ok (.ireturn, 1) := by decide +kernel
set_option maxRecDepth 20000 in
theorem ggX2_ledTo_X2_has : GoodIn wsX2_ledTo wsX2_has := goodIn_r _ [5] (by decide +kernel) (by decide +kernel)
set_option maxRecDepth 20000 in
theorem gX2_ledTo_X2_has : GoodIn wsX2_ledTo (va_wsS RX2 54 yX2_has wsX2_has) := goodIn_app (goodIn_of _ (by decide +kernel)) ggX2_ledTo_X2_has
set_option maxRecDepth 20000 in
theorem ggX2_ledTo_X2_fromOf : GoodIn wsX2_ledTo wsX2_fromOf := goodIn_r _ [9, 1, 10, 11, 12, 4, 13, 14, 15, 16, 17, 18, 19, 20, 21, 22, 23, 24, 25, 26, 27, 28, 29, 30, 31] (by decide +kernel) (by decide +kernel)
set_option maxRecDepth 20000 in
theorem gX2_ledTo_X2_fromOf : GoodIn wsX2_ledTo (wsV RX2 80 RX2 yX2_fromOf wsX2_fromOf) := goodIn_app (goodIn_of _ (by decide +kernel)) ggX2_ledTo_X2_fromOf
theorem dX2_ledTo_0 : decode cX2_ledTo 0 = .ok (.iload_n 1, 1) := by decide +kernel
theorem dX2_ledTo_1 : decode cX2_ledTo 1 = .ok (.istore_n 3, 1) := by decide +kernel
theorem dX2_ledTo_2 : decode cX2_ledTo 2 = .ok (.iconst (-1), 1) := by decide +kernel
theorem dX2_ledTo_3 : decode cX2_ledTo 3 = .ok (.istore 4, 2) := by decide +kernel
theorem dX2_ledTo_5 : decode cX2_ledTo 5 = .ok (.iload 4, 2) := by decide +kernel
theorem dX2_ledTo_7 : decode cX2_ledTo 7 = .ok (.iload_n 3, 1) := by decide +kernel
theorem dX2_ledTo_8 : decode cX2_ledTo 8 = .ok (.if_icmp .eq 52, 3) := by decide +kernel
theorem dX2_ledTo_11 : decode cX2_ledTo 11 = .ok (.iload_n 3, 1) := by decide +kernel
theorem dX2_ledTo_12 : decode cX2_ledTo 12 = .ok (.istore 4, 2) := by decide +kernel
theorem dX2_ledTo_14 : decode cX2_ledTo 14 = .ok (.iconst 0, 1) := by decide +kernel
theorem dX2_ledTo_15 : decode cX2_ledTo 15 = .ok (.istore 5, 2) := by decide +kernel
theorem dX2_ledTo_17 : decode cX2_ledTo 17 = .ok (.iload 5, 2) := by decide +kernel
theorem dX2_ledTo_19 : decode cX2_ledTo 19 = .ok (.aload_n 0, 1) := by decide +kernel
theorem dX2_ledTo_20 : decode cX2_ledTo 20 = .ok (.getfield 39, 3) := by decide +kernel
theorem dX2_ledTo_23 : decode cX2_ledTo 23 = .ok (.if_icmp .ge 34, 3) := by decide +kernel
theorem dX2_ledTo_26 : decode cX2_ledTo 26 = .ok (.iload_n 3, 1) := by decide +kernel
theorem dX2_ledTo_27 : decode cX2_ledTo 27 = .ok (.iload 4, 2) := by decide +kernel
theorem dX2_ledTo_29 : decode cX2_ledTo 29 = .ok (.iload 5, 2) := by decide +kernel
theorem dX2_ledTo_31 : decode cX2_ledTo 31 = .ok (.invokestatic 54, 3) := by decide +kernel
theorem dX2_ledTo_34 : decode cX2_ledTo 34 = .ok (.ifCond .eq 14, 3) := by decide +kernel
theorem dX2_ledTo_37 : decode cX2_ledTo 37 = .ok (.aload_n 0, 1) := by decide +kernel
theorem dX2_ledTo_38 : decode cX2_ledTo 38 = .ok (.iload 5, 2) := by decide +kernel
theorem dX2_ledTo_40 : decode cX2_ledTo 40 = .ok (.invokevirtual 80, 3) := by decide +kernel
theorem dX2_ledTo_43 : decode cX2_ledTo 43 = .ok (.iload_n 2, 1) := by decide +kernel
theorem dX2_ledTo_44 : decode cX2_ledTo 44 = .ok (.iand, 1) := by decide +kernel
theorem dX2_ledTo_45 : decode cX2_ledTo 45 = .ok (.goto 4, 3) := by decide +kernel
theorem dX2_ledTo_48 : decode cX2_ledTo 48 = .ok (.iconst 0, 1) := by decide +kernel
theorem dX2_ledTo_49 : decode cX2_ledTo 49 = .ok (.ior, 1) := by decide +kernel
theorem dX2_ledTo_50 : decode cX2_ledTo 50 = .ok (.istore_n 3, 1) := by decide +kernel
theorem dX2_ledTo_51 : decode cX2_ledTo 51 = .ok (.iinc 5 1, 3) := by decide +kernel
theorem dX2_ledTo_54 : decode cX2_ledTo 54 = .ok (.goto (-37), 3) := by decide +kernel
theorem dX2_ledTo_57 : decode cX2_ledTo 57 = .ok (.goto (-52), 3) := by decide +kernel
theorem dX2_ledTo_60 : decode cX2_ledTo 60 = .ok (.iload_n 3, 1) := by decide +kernel
theorem dX2_ledTo_61 : decode cX2_ledTo 61 = .ok (.ireturn, 1) := by decide +kernel
set_option maxRecDepth 20000 in
theorem ggX2_staying_X2_onHost : GoodIn wsX2_staying wsX2_onHost := goodIn_r _ [7, 1, 8, 9, 10, 11, 6, 12, 35, 36, 37, 38, 39, 40, 41, 42, 43, 44, 45, 46, 47] (by decide +kernel) (by decide +kernel)
set_option maxRecDepth 20000 in
theorem gX2_staying_X2_onHost : GoodIn wsX2_staying (wsV RX2 111 RX2 yX2_onHost wsX2_onHost) := goodIn_app (goodIn_of _ (by decide +kernel)) ggX2_staying_X2_onHost
set_option maxRecDepth 20000 in
theorem ggX2_staying_X2_rootsOf : GoodIn wsX2_staying wsX2_rootsOf := goodIn_r _ [16, 1, 17, 10, 11, 6, 12, 35, 36, 37, 38, 39, 40, 41, 42, 43, 44, 45, 46, 47] (by decide +kernel) (by decide +kernel)
set_option maxRecDepth 20000 in
theorem gX2_staying_X2_rootsOf : GoodIn wsX2_staying (wsV RX2 114 RX2 yX2_rootsOf wsX2_rootsOf) := goodIn_app (goodIn_of _ (by decide +kernel)) ggX2_staying_X2_rootsOf
set_option maxRecDepth 20000 in
theorem ggX2_staying_X2_has : GoodIn wsX2_staying wsX2_has := goodIn_r _ [12] (by decide +kernel) (by decide +kernel)
set_option maxRecDepth 20000 in
theorem gX2_staying_X2_has : GoodIn wsX2_staying (va_wsS RX2 54 yX2_has wsX2_has) := goodIn_app (goodIn_of _ (by decide +kernel)) ggX2_staying_X2_has
set_option maxRecDepth 20000 in
theorem ggX2_staying_X2_ledTo : GoodIn wsX2_staying wsX2_ledTo := goodIn_r _ [21, 1, 10, 11, 6, 12, 22, 23, 24, 25, 26, 27, 28, 29, 30, 31, 32, 33, 34, 35, 36, 37, 38, 39, 40, 41, 42, 43, 44, 45, 46, 47] (by decide +kernel) (by decide +kernel)
set_option maxRecDepth 20000 in
theorem gX2_staying_X2_ledTo : GoodIn wsX2_staying (wsV RX2 117 RX2 yX2_ledTo wsX2_ledTo) := goodIn_app (goodIn_of _ (by decide +kernel)) ggX2_staying_X2_ledTo
theorem dX2_staying_0 : decode cX2_staying 0 = .ok (.aload_n 0, 1) := by decide +kernel
theorem dX2_staying_1 : decode cX2_staying 1 = .ok (.iload_n 1, 1) := by decide +kernel
theorem dX2_staying_2 : decode cX2_staying 2 = .ok (.invokevirtual 111, 3) := by decide +kernel
theorem dX2_staying_5 : decode cX2_staying 5 = .ok (.istore_n 2, 1) := by decide +kernel
theorem dX2_staying_6 : decode cX2_staying 6 = .ok (.aload_n 0, 1) := by decide +kernel
theorem dX2_staying_7 : decode cX2_staying 7 = .ok (.iload_n 2, 1) := by decide +kernel
theorem dX2_staying_8 : decode cX2_staying 8 = .ok (.invokevirtual 114, 3) := by decide +kernel
theorem dX2_staying_11 : decode cX2_staying 11 = .ok (.istore_n 3, 1) := by decide +kernel
theorem dX2_staying_12 : decode cX2_staying 12 = .ok (.iconst 0, 1) := by decide +kernel
theorem dX2_staying_13 : decode cX2_staying 13 = .ok (.istore 4, 2) := by decide +kernel
theorem dX2_staying_15 : decode cX2_staying 15 = .ok (.iload 4, 2) := by decide +kernel
theorem dX2_staying_17 : decode cX2_staying 17 = .ok (.aload_n 0, 1) := by decide +kernel
theorem dX2_staying_18 : decode cX2_staying 18 = .ok (.getfield 39, 3) := by decide +kernel
theorem dX2_staying_21 : decode cX2_staying 21 = .ok (.if_icmp .ge 39, 3) := by decide +kernel
theorem dX2_staying_24 : decode cX2_staying 24 = .ok (.iload_n 3, 1) := by decide +kernel
theorem dX2_staying_25 : decode cX2_staying 25 = .ok (.iload_n 2, 1) := by decide +kernel
theorem dX2_staying_26 : decode cX2_staying 26 = .ok (.iload 4, 2) := by decide +kernel
theorem dX2_staying_28 : decode cX2_staying 28 = .ok (.invokestatic 54, 3) := by decide +kernel
theorem dX2_staying_31 : decode cX2_staying 31 = .ok (.ifCond .eq 20, 3) := by decide +kernel
theorem dX2_staying_34 : decode cX2_staying 34 = .ok (.aload_n 0, 1) := by decide +kernel
theorem dX2_staying_35 : decode cX2_staying 35 = .ok (.getfield 17, 3) := by decide +kernel
theorem dX2_staying_38 : decode cX2_staying 38 = .ok (.iload 4, 2) := by decide +kernel
theorem dX2_staying_40 : decode cX2_staying 40 = .ok (.iaload, 1) := by decide +kernel
theorem dX2_staying_41 : decode cX2_staying 41 = .ok (.ifCond .le 10, 3) := by decide +kernel
theorem dX2_staying_44 : decode cX2_staying 44 = .ok (.iconst 1, 1) := by decide +kernel
theorem dX2_staying_45 : decode cX2_staying 45 = .ok (.iload 4, 2) := by decide +kernel
theorem dX2_staying_47 : decode cX2_staying 47 = .ok (.ishl, 1) := by decide +kernel
theorem dX2_staying_48 : decode cX2_staying 48 = .ok (.goto 4, 3) := by decide +kernel
theorem dX2_staying_51 : decode cX2_staying 51 = .ok (.iconst 0, 1) := by decide +kernel
theorem dX2_staying_52 : decode cX2_staying 52 = .ok (.ior, 1) := by decide +kernel
theorem dX2_staying_53 : decode cX2_staying 53 = .ok (.istore_n 3, 1) := by decide +kernel
theorem dX2_staying_54 : decode cX2_staying 54 = .ok (.iinc 4 1, 3) := by decide +kernel
theorem dX2_staying_57 : decode cX2_staying 57 = .ok (.goto (-42), 3) := by decide +kernel
theorem dX2_staying_60 : decode cX2_staying 60 = .ok (.aload_n 0, 1) := by decide +kernel
theorem dX2_staying_61 : decode cX2_staying 61 = .ok (.iload_n 3, 1) := by decide +kernel
theorem dX2_staying_62 : decode cX2_staying 62 = .ok (.iload_n 2, 1) := by decide +kernel
theorem dX2_staying_63 : decode cX2_staying 63 = .ok (.invokevirtual 117, 3) := by decide +kernel
theorem dX2_staying_66 : decode cX2_staying 66 = .ok (.ireturn, 1) := by decide +kernel
set_option maxRecDepth 20000 in
theorem ggX2_become_X2_has : GoodIn wsX2_become wsX2_has := goodIn_r _ [6] (by decide +kernel) (by decide +kernel)
set_option maxRecDepth 20000 in
theorem gX2_become_X2_has : GoodIn wsX2_become (va_wsS RX2 54 yX2_has wsX2_has) := goodIn_app (goodIn_of _ (by decide +kernel)) ggX2_become_X2_has
set_option maxRecDepth 20000 in
theorem ggX2_become_X2_sends : GoodIn wsX2_become wsX2_sends := goodIn_r _ [10, 11, 12, 13, 14, 18, 19, 20, 21, 22, 23, 24, 25, 26, 27, 28, 29, 30] (by decide +kernel) (by decide +kernel)
set_option maxRecDepth 20000 in
theorem gX2_become_X2_sends : GoodIn wsX2_become (wsV RX2 77 RX2 yX2_sends wsX2_sends) := goodIn_app (goodIn_of _ (by decide +kernel)) ggX2_become_X2_sends
set_option maxRecDepth 20000 in
theorem ggX2_become_X2_sizeOf : GoodIn wsX2_become wsX2_sizeOf := goodIn_r _ [17] (by decide +kernel) (by decide +kernel)
set_option maxRecDepth 20000 in
theorem gX2_become_X2_sizeOf : GoodIn wsX2_become (va_wsS RX2 120 yX2_sizeOf wsX2_sizeOf) := goodIn_app (goodIn_of _ (by decide +kernel)) ggX2_become_X2_sizeOf
theorem dX2_become_0 : decode cX2_become 0 = .ok (.aload_n 0, 1) := by decide +kernel
theorem dX2_become_1 : decode cX2_become 1 = .ok (.dup, 1) := by decide +kernel
theorem dX2_become_2 : decode cX2_become 2 = .ok (.getfield 61, 3) := by decide +kernel
theorem dX2_become_5 : decode cX2_become 5 = .ok (.iload_n 1, 1) := by decide +kernel
theorem dX2_become_6 : decode cX2_become 6 = .ok (.ior, 1) := by decide +kernel
theorem dX2_become_7 : decode cX2_become 7 = .ok (.putfield 61, 3) := by decide +kernel
theorem dX2_become_10 : decode cX2_become 10 = .ok (.iconst 0, 1) := by decide +kernel
theorem dX2_become_11 : decode cX2_become 11 = .ok (.istore_n 3, 1) := by decide +kernel
theorem dX2_become_12 : decode cX2_become 12 = .ok (.iload_n 3, 1) := by decide +kernel
theorem dX2_become_13 : decode cX2_become 13 = .ok (.bipush 100, 2) := by decide +kernel
theorem dX2_become_15 : decode cX2_become 15 = .ok (.if_icmp .ge 69, 3) := by decide +kernel
theorem dX2_become_18 : decode cX2_become 18 = .ok (.iload_n 3, 1) := by decide +kernel
theorem dX2_become_19 : decode cX2_become 19 = .ok (.bipush 10, 2) := by decide +kernel
theorem dX2_become_21 : decode cX2_become 21 = .ok (.idiv, 1) := by decide +kernel
theorem dX2_become_22 : decode cX2_become 22 = .ok (.istore 4, 2) := by decide +kernel
theorem dX2_become_24 : decode cX2_become 24 = .ok (.iload_n 3, 1) := by decide +kernel
theorem dX2_become_25 : decode cX2_become 25 = .ok (.bipush 10, 2) := by decide +kernel
theorem dX2_become_27 : decode cX2_become 27 = .ok (.irem, 1) := by decide +kernel
theorem dX2_become_28 : decode cX2_become 28 = .ok (.istore 5, 2) := by decide +kernel
theorem dX2_become_30 : decode cX2_become 30 = .ok (.iload_n 2, 1) := by decide +kernel
theorem dX2_become_31 : decode cX2_become 31 = .ok (.ifCond .eq 47, 3) := by decide +kernel
theorem dX2_become_34 : decode cX2_become 34 = .ok (.iload_n 1, 1) := by decide +kernel
theorem dX2_become_35 : decode cX2_become 35 = .ok (.iload 4, 2) := by decide +kernel
theorem dX2_become_37 : decode cX2_become 37 = .ok (.invokestatic 54, 3) := by decide +kernel
theorem dX2_become_40 : decode cX2_become 40 = .ok (.ifCond .eq 38, 3) := by decide +kernel
theorem dX2_become_43 : decode cX2_become 43 = .ok (.aload_n 0, 1) := by decide +kernel
theorem dX2_become_44 : decode cX2_become 44 = .ok (.getfield 23, 3) := by decide +kernel
theorem dX2_become_47 : decode cX2_become 47 = .ok (.iload_n 3, 1) := by decide +kernel
theorem dX2_become_48 : decode cX2_become 48 = .ok (.iaload, 1) := by decide +kernel
theorem dX2_become_49 : decode cX2_become 49 = .ok (.ifCond .le 29, 3) := by decide +kernel
theorem dX2_become_52 : decode cX2_become 52 = .ok (.aload_n 0, 1) := by decide +kernel
theorem dX2_become_53 : decode cX2_become 53 = .ok (.getfield 61, 3) := by decide +kernel
theorem dX2_become_56 : decode cX2_become 56 = .ok (.iload 5, 2) := by decide +kernel
theorem dX2_become_58 : decode cX2_become 58 = .ok (.invokestatic 54, 3) := by decide +kernel
theorem dX2_become_61 : decode cX2_become 61 = .ok (.ifCond .ne 17, 3) := by decide +kernel
theorem dX2_become_64 : decode cX2_become 64 = .ok (.aload_n 0, 1) := by decide +kernel
theorem dX2_become_65 : decode cX2_become 65 = .ok (.iload 5, 2) := by decide +kernel
theorem dX2_become_67 : decode cX2_become 67 = .ok (.bipush (-9), 2) := by decide +kernel
theorem dX2_become_69 : decode cX2_become 69 = .ok (.aload_n 0, 1) := by decide +kernel
theorem dX2_become_70 : decode cX2_become 70 = .ok (.getfield 23, 3) := by decide +kernel
theorem dX2_become_73 : decode cX2_become 73 = .ok (.iload_n 3, 1) := by decide +kernel
theorem dX2_become_74 : decode cX2_become 74 = .ok (.iaload, 1) := by decide +kernel
theorem dX2_become_75 : decode cX2_become 75 = .ok (.invokevirtual 77, 3) := by decide +kernel
theorem dX2_become_78 : decode cX2_become 78 = .ok (.iinc 3 1, 3) := by decide +kernel
theorem dX2_become_81 : decode cX2_become 81 = .ok (.goto (-69), 3) := by decide +kernel
theorem dX2_become_84 : decode cX2_become 84 = .ok (.iconst 0, 1) := by decide +kernel
theorem dX2_become_85 : decode cX2_become 85 = .ok (.istore_n 3, 1) := by decide +kernel
theorem dX2_become_86 : decode cX2_become 86 = .ok (.iload_n 3, 1) := by decide +kernel
theorem dX2_become_87 : decode cX2_become 87 = .ok (.bipush 100, 2) := by decide +kernel
theorem dX2_become_89 : decode cX2_become 89 = .ok (.if_icmp .ge 48, 3) := by decide +kernel
theorem dX2_become_92 : decode cX2_become 92 = .ok (.aload_n 0, 1) := by decide +kernel
theorem dX2_become_93 : decode cX2_become 93 = .ok (.getfield 23, 3) := by decide +kernel
theorem dX2_become_96 : decode cX2_become 96 = .ok (.iload_n 3, 1) := by decide +kernel
theorem dX2_become_97 : decode cX2_become 97 = .ok (.iload_n 1, 1) := by decide +kernel
theorem dX2_become_98 : decode cX2_become 98 = .ok (.iload_n 3, 1) := by decide +kernel
theorem dX2_become_99 : decode cX2_become 99 = .ok (.bipush 10, 2) := by decide +kernel
theorem dX2_become_101 : decode cX2_become 101 = .ok (.idiv, 1) := by decide +kernel
theorem dX2_become_102 : decode cX2_become 102 = .ok (.invokestatic 54, 3) := by decide +kernel
theorem dX2_become_105 : decode cX2_become 105 = .ok (.ifCond .ne 14, 3) := by decide +kernel
theorem dX2_become_108 : decode cX2_become 108 = .ok (.iload_n 1, 1) := by decide +kernel
theorem dX2_become_109 : decode cX2_become 109 = .ok (.iload_n 3, 1) := by decide +kernel
theorem dX2_become_110 : decode cX2_become 110 = .ok (.bipush 10, 2) := by decide +kernel
theorem dX2_become_112 : decode cX2_become 112 = .ok (.irem, 1) := by decide +kernel
theorem dX2_become_113 : decode cX2_become 113 = .ok (.invokestatic 54, 3) := by decide +kernel
theorem dX2_become_116 : decode cX2_become 116 = .ok (.ifCond .eq 8, 3) := by decide +kernel
theorem dX2_become_119 : decode cX2_become 119 = .ok (.bipush (-9), 2) := by decide +kernel
theorem dX2_become_121 : decode cX2_become 121 = .ok (.goto 9, 3) := by decide +kernel
theorem dX2_become_124 : decode cX2_become 124 = .ok (.aload_n 0, 1) := by decide +kernel
theorem dX2_become_125 : decode cX2_become 125 = .ok (.getfield 23, 3) := by decide +kernel
theorem dX2_become_128 : decode cX2_become 128 = .ok (.iload_n 3, 1) := by decide +kernel
theorem dX2_become_129 : decode cX2_become 129 = .ok (.iaload, 1) := by decide +kernel
theorem dX2_become_130 : decode cX2_become 130 = .ok (.iastore, 1) := by decide +kernel
theorem dX2_become_131 : decode cX2_become 131 = .ok (.iinc 3 1, 3) := by decide +kernel
theorem dX2_become_134 : decode cX2_become 134 = .ok (.goto (-48), 3) := by decide +kernel
theorem dX2_become_137 : decode cX2_become 137 = .ok (.iload_n 1, 1) := by decide +kernel
theorem dX2_become_138 : decode cX2_become 138 = .ok (.invokestatic 120, 3) := by decide +kernel
theorem dX2_become_141 : decode cX2_become 141 = .ok (.ireturn, 1) := by decide +kernel
set_option maxRecDepth 20000 in
theorem ggX2_collects_X2_onHost : GoodIn wsX2_collects wsX2_onHost := goodIn_r _ [7, 1, 8, 9, 10, 11, 6, 12, 55, 56, 57, 58, 59, 60, 61, 62, 63, 64, 65, 66, 67] (by decide +kernel) (by decide +kernel)
set_option maxRecDepth 20000 in
theorem gX2_collects_X2_onHost : GoodIn wsX2_collects (wsV RX2 111 RX2 yX2_onHost wsX2_onHost) := goodIn_app (goodIn_of _ (by decide +kernel)) ggX2_collects_X2_onHost
set_option maxRecDepth 20000 in
theorem ggX2_collects_X2_staying : GoodIn wsX2_collects wsX2_staying := goodIn_r _ [16, 1, 17, 3, 4, 5, 6, 7, 8, 9, 10, 11, 12, 18, 19, 20, 21, 22, 23, 24, 25, 26, 27, 28, 29, 30, 31, 32, 33, 34, 35, 36, 37, 38, 39, 55, 56, 57, 58, 59, 60, 61, 62, 63, 64, 65, 66, 67] (by decide +kernel) (by decide +kernel)
set_option maxRecDepth 20000 in
theorem gX2_collects_X2_staying : GoodIn wsX2_collects (wsV RX2 123 RX2 yX2_staying wsX2_staying) := goodIn_app (goodIn_of _ (by decide +kernel)) ggX2_collects_X2_staying
set_option maxRecDepth 20000 in
theorem ggX2_collects_X2_rootsOf : GoodIn wsX2_collects wsX2_rootsOf := goodIn_r _ [21, 1, 22, 10, 11, 6, 12, 55, 56, 57, 58, 59, 60, 61, 62, 63, 64, 65, 66, 67] (by decide +kernel) (by decide +kernel)
set_option maxRecDepth 20000 in
theorem gX2_collects_X2_rootsOf : GoodIn wsX2_collects (wsV RX2 114 RX2 yX2_rootsOf wsX2_rootsOf) := goodIn_app (goodIn_of _ (by decide +kernel)) ggX2_collects_X2_rootsOf
set_option maxRecDepth 20000 in
theorem ggX2_collects_X2_ledTo : GoodIn wsX2_collects wsX2_ledTo := goodIn_r _ [26, 1, 10, 11, 6, 12, 27, 28, 29, 30, 31, 32, 33, 34, 35, 36, 37, 38, 39, 55, 56, 57, 58, 59, 60, 61, 62, 63, 64, 65, 66, 67] (by decide +kernel) (by decide +kernel)
set_option maxRecDepth 20000 in
theorem gX2_collects_X2_ledTo : GoodIn wsX2_collects (wsV RX2 117 RX2 yX2_ledTo wsX2_ledTo) := goodIn_app (goodIn_of _ (by decide +kernel)) ggX2_collects_X2_ledTo
set_option maxRecDepth 20000 in
theorem ggX2_collects_X2_has : GoodIn wsX2_collects wsX2_has := goodIn_r _ [12] (by decide +kernel) (by decide +kernel)
set_option maxRecDepth 20000 in
theorem gX2_collects_X2_has : GoodIn wsX2_collects (va_wsS RX2 54 yX2_has wsX2_has) := goodIn_app (goodIn_of _ (by decide +kernel)) ggX2_collects_X2_has
set_option maxRecDepth 20000 in
theorem ggX2_collects_X2_become : GoodIn wsX2_collects wsX2_become := goodIn_r _ [43, 9, 39, 10, 11, 6, 12, 44, 45, 46, 47, 48, 49, 50, 51, 52, 53, 54, 55, 56, 57, 58, 59, 60, 61, 62, 63, 64, 65, 66, 67] (by decide +kernel) (by decide +kernel)
set_option maxRecDepth 20000 in
theorem gX2_collects_X2_become : GoodIn wsX2_collects (wsV RX2 126 RX2 yX2_become wsX2_become) := goodIn_app (goodIn_of _ (by decide +kernel)) ggX2_collects_X2_become
theorem dX2_collects_0 : decode cX2_collects 0 = .ok (.aload_n 0, 1) := by decide +kernel
theorem dX2_collects_1 : decode cX2_collects 1 = .ok (.iload_n 1, 1) := by decide +kernel
theorem dX2_collects_2 : decode cX2_collects 2 = .ok (.invokevirtual 111, 3) := by decide +kernel
theorem dX2_collects_5 : decode cX2_collects 5 = .ok (.istore_n 2, 1) := by decide +kernel
theorem dX2_collects_6 : decode cX2_collects 6 = .ok (.aload_n 0, 1) := by decide +kernel
theorem dX2_collects_7 : decode cX2_collects 7 = .ok (.iload_n 1, 1) := by decide +kernel
theorem dX2_collects_8 : decode cX2_collects 8 = .ok (.invokevirtual 123, 3) := by decide +kernel
theorem dX2_collects_11 : decode cX2_collects 11 = .ok (.istore_n 3, 1) := by decide +kernel
theorem dX2_collects_12 : decode cX2_collects 12 = .ok (.aload_n 0, 1) := by decide +kernel
theorem dX2_collects_13 : decode cX2_collects 13 = .ok (.aload_n 0, 1) := by decide +kernel
theorem dX2_collects_14 : decode cX2_collects 14 = .ok (.iload_n 2, 1) := by decide +kernel
theorem dX2_collects_15 : decode cX2_collects 15 = .ok (.invokevirtual 114, 3) := by decide +kernel
theorem dX2_collects_18 : decode cX2_collects 18 = .ok (.iload_n 2, 1) := by decide +kernel
theorem dX2_collects_19 : decode cX2_collects 19 = .ok (.invokevirtual 117, 3) := by decide +kernel
theorem dX2_collects_22 : decode cX2_collects 22 = .ok (.istore 4, 2) := by decide +kernel
theorem dX2_collects_24 : decode cX2_collects 24 = .ok (.iconst 0, 1) := by decide +kernel
theorem dX2_collects_25 : decode cX2_collects 25 = .ok (.istore 5, 2) := by decide +kernel
theorem dX2_collects_27 : decode cX2_collects 27 = .ok (.iload 5, 2) := by decide +kernel
theorem dX2_collects_29 : decode cX2_collects 29 = .ok (.aload_n 0, 1) := by decide +kernel
theorem dX2_collects_30 : decode cX2_collects 30 = .ok (.getfield 39, 3) := by decide +kernel
theorem dX2_collects_33 : decode cX2_collects 33 = .ok (.if_icmp .ge 65, 3) := by decide +kernel
theorem dX2_collects_36 : decode cX2_collects 36 = .ok (.iload_n 3, 1) := by decide +kernel
theorem dX2_collects_37 : decode cX2_collects 37 = .ok (.iload 5, 2) := by decide +kernel
theorem dX2_collects_39 : decode cX2_collects 39 = .ok (.invokestatic 54, 3) := by decide +kernel
theorem dX2_collects_42 : decode cX2_collects 42 = .ok (.ifCond .eq 50, 3) := by decide +kernel
theorem dX2_collects_45 : decode cX2_collects 45 = .ok (.aload_n 0, 1) := by decide +kernel
theorem dX2_collects_46 : decode cX2_collects 46 = .ok (.getfield 20, 3) := by decide +kernel
theorem dX2_collects_49 : decode cX2_collects 49 = .ok (.iload 5, 2) := by decide +kernel
theorem dX2_collects_51 : decode cX2_collects 51 = .ok (.iload 4, 2) := by decide +kernel
theorem dX2_collects_53 : decode cX2_collects 53 = .ok (.iload 5, 2) := by decide +kernel
theorem dX2_collects_55 : decode cX2_collects 55 = .ok (.invokestatic 54, 3) := by decide +kernel
theorem dX2_collects_58 : decode cX2_collects 58 = .ok (.ifCond .eq 7, 3) := by decide +kernel
theorem dX2_collects_61 : decode cX2_collects 61 = .ok (.iconst 0, 1) := by decide +kernel
theorem dX2_collects_62 : decode cX2_collects 62 = .ok (.goto 29, 3) := by decide +kernel
theorem dX2_collects_65 : decode cX2_collects 65 = .ok (.aload_n 0, 1) := by decide +kernel
theorem dX2_collects_66 : decode cX2_collects 66 = .ok (.getfield 20, 3) := by decide +kernel
theorem dX2_collects_69 : decode cX2_collects 69 = .ok (.iload 5, 2) := by decide +kernel
theorem dX2_collects_71 : decode cX2_collects 71 = .ok (.iaload, 1) := by decide +kernel
theorem dX2_collects_72 : decode cX2_collects 72 = .ok (.bipush 9, 2) := by decide +kernel
theorem dX2_collects_74 : decode cX2_collects 74 = .ok (.if_icmp .ge 15, 3) := by decide +kernel
theorem dX2_collects_77 : decode cX2_collects 77 = .ok (.aload_n 0, 1) := by decide +kernel
theorem dX2_collects_78 : decode cX2_collects 78 = .ok (.getfield 20, 3) := by decide +kernel
theorem dX2_collects_81 : decode cX2_collects 81 = .ok (.iload 5, 2) := by decide +kernel
theorem dX2_collects_83 : decode cX2_collects 83 = .ok (.iaload, 1) := by decide +kernel
theorem dX2_collects_84 : decode cX2_collects 84 = .ok (.iconst 1, 1) := by decide +kernel
theorem dX2_collects_85 : decode cX2_collects 85 = .ok (.iadd, 1) := by decide +kernel
theorem dX2_collects_86 : decode cX2_collects 86 = .ok (.goto 5, 3) := by decide +kernel
theorem dX2_collects_89 : decode cX2_collects 89 = .ok (.bipush 9, 2) := by decide +kernel
theorem dX2_collects_91 : decode cX2_collects 91 = .ok (.iastore, 1) := by decide +kernel
theorem dX2_collects_92 : decode cX2_collects 92 = .ok (.iinc 5 1, 3) := by decide +kernel
theorem dX2_collects_95 : decode cX2_collects 95 = .ok (.goto (-68), 3) := by decide +kernel
theorem dX2_collects_98 : decode cX2_collects 98 = .ok (.aload_n 0, 1) := by decide +kernel
theorem dX2_collects_99 : decode cX2_collects 99 = .ok (.iload_n 2, 1) := by decide +kernel
theorem dX2_collects_100 : decode cX2_collects 100 = .ok (.iload_n 3, 1) := by decide +kernel
theorem dX2_collects_101 : decode cX2_collects 101 = .ok (.iconst (-1), 1) := by decide +kernel
theorem dX2_collects_102 : decode cX2_collects 102 = .ok (.ixor, 1) := by decide +kernel
theorem dX2_collects_103 : decode cX2_collects 103 = .ok (.iand, 1) := by decide +kernel
theorem dX2_collects_104 : decode cX2_collects 104 = .ok (.iconst 1, 1) := by decide +kernel
theorem dX2_collects_105 : decode cX2_collects 105 = .ok (.invokevirtual 126, 3) := by decide +kernel
theorem dX2_collects_108 : decode cX2_collects 108 = .ok (.ireturn, 1) := by decide +kernel
set_option maxRecDepth 20000 in
theorem ggX2_collect_X2_isHost : GoodIn wsX2_collect wsX2_isHost := goodIn_r _ [5, 6, 7, 4, 8] (by decide +kernel) (by decide +kernel)
set_option maxRecDepth 20000 in
theorem gX2_collect_X2_isHost : GoodIn wsX2_collect (va_wsS RX2 47 yX2_isHost wsX2_isHost) := goodIn_app (goodIn_of _ (by decide +kernel)) ggX2_collect_X2_isHost
set_option maxRecDepth 20000 in
theorem ggX2_collect_X2_has : GoodIn wsX2_collect wsX2_has := goodIn_r _ [11] (by decide +kernel) (by decide +kernel)
set_option maxRecDepth 20000 in
theorem gX2_collect_X2_has : GoodIn wsX2_collect (va_wsS RX2 54 yX2_has wsX2_has) := goodIn_app (goodIn_of _ (by decide +kernel)) ggX2_collect_X2_has
set_option maxRecDepth 20000 in
theorem ggX2_collect_X2_collects : GoodIn wsX2_collect wsX2_collects := goodIn_r _ [15, 16, 17, 18, 19, 20, 4, 21, 22, 23, 9, 10, 11, 24, 25, 26, 27, 28, 29, 30, 31, 32, 33, 34, 35, 36, 37, 38, 39, 40, 41, 42, 43, 44, 45, 46, 47, 48, 49, 50, 51, 52, 53, 54, 55, 56, 57, 58, 59, 60, 61, 62, 63, 64, 65, 66, 67, 68, 69, 70, 71, 72, 73, 74, 75, 76, 77, 78] (by decide +kernel) (by decide +kernel)
set_option maxRecDepth 20000 in
theorem gX2_collect_X2_collects : GoodIn wsX2_collect (wsV RX2 130 RX2 yX2_collects wsX2_collects) := goodIn_app (goodIn_of _ (by decide +kernel)) ggX2_collect_X2_collects
theorem dX2_collect_0 : decode cX2_collect 0 = .ok (.iload_n 1, 1) := by decide +kernel
theorem dX2_collect_1 : decode cX2_collect 1 = .ok (.invokestatic 47, 3) := by decide +kernel
theorem dX2_collect_4 : decode cX2_collect 4 = .ok (.ifCond .ne 5, 3) := by decide +kernel
theorem dX2_collect_7 : decode cX2_collect 7 = .ok (.iconst (-1), 1) := by decide +kernel
theorem dX2_collect_8 : decode cX2_collect 8 = .ok (.ireturn, 1) := by decide +kernel
theorem dX2_collect_9 : decode cX2_collect 9 = .ok (.aload_n 0, 1) := by decide +kernel
theorem dX2_collect_10 : decode cX2_collect 10 = .ok (.getfield 51, 3) := by decide +kernel
theorem dX2_collect_13 : decode cX2_collect 13 = .ok (.iload_n 1, 1) := by decide +kernel
theorem dX2_collect_14 : decode cX2_collect 14 = .ok (.invokestatic 54, 3) := by decide +kernel
theorem dX2_collect_17 : decode cX2_collect 17 = .ok (.ifCond .eq 8, 3) := by decide +kernel
theorem dX2_collect_20 : decode cX2_collect 20 = .ok (.bipush (-3), 2) := by decide +kernel
theorem dX2_collect_22 : decode cX2_collect 22 = .ok (.goto 8, 3) := by decide +kernel
theorem dX2_collect_25 : decode cX2_collect 25 = .ok (.aload_n 0, 1) := by decide +kernel
theorem dX2_collect_26 : decode cX2_collect 26 = .ok (.iload_n 1, 1) := by decide +kernel
theorem dX2_collect_27 : decode cX2_collect 27 = .ok (.invokevirtual 130, 3) := by decide +kernel
theorem dX2_collect_30 : decode cX2_collect 30 = .ok (.ireturn, 1) := by decide +kernel
set_option maxRecDepth 20000 in
theorem ggX2_stays_X2_isHost : GoodIn wsX2_stays wsX2_isHost := goodIn_r _ [4, 5, 6, 3, 7] (by decide +kernel) (by decide +kernel)
set_option maxRecDepth 20000 in
theorem gX2_stays_X2_isHost : GoodIn wsX2_stays (va_wsS RX2 47 yX2_isHost wsX2_isHost) := goodIn_app (goodIn_of _ (by decide +kernel)) ggX2_stays_X2_isHost
set_option maxRecDepth 20000 in
theorem ggX2_stays_X2_staying : GoodIn wsX2_stays wsX2_staying := goodIn_r _ [11, 12, 13, 14, 15, 16, 3, 17, 18, 19, 20, 21, 22, 23, 24, 25, 26, 27, 28, 29, 30, 31, 32, 33, 34, 35, 36, 37, 38, 39, 40, 41, 42, 43, 44, 45, 46, 47, 48, 49, 50, 51, 52, 53, 54, 55, 56, 57] (by decide +kernel) (by decide +kernel)
set_option maxRecDepth 20000 in
theorem gX2_stays_X2_staying : GoodIn wsX2_stays (wsV RX2 123 RX2 yX2_staying wsX2_staying) := goodIn_app (goodIn_of _ (by decide +kernel)) ggX2_stays_X2_staying
theorem dX2_stays_0 : decode cX2_stays 0 = .ok (.iload_n 1, 1) := by decide +kernel
theorem dX2_stays_1 : decode cX2_stays 1 = .ok (.invokestatic 47, 3) := by decide +kernel
theorem dX2_stays_4 : decode cX2_stays 4 = .ok (.ifCond .eq 11, 3) := by decide +kernel
theorem dX2_stays_7 : decode cX2_stays 7 = .ok (.aload_n 0, 1) := by decide +kernel
theorem dX2_stays_8 : decode cX2_stays 8 = .ok (.iload_n 1, 1) := by decide +kernel
theorem dX2_stays_9 : decode cX2_stays 9 = .ok (.invokevirtual 123, 3) := by decide +kernel
theorem dX2_stays_12 : decode cX2_stays 12 = .ok (.goto 4, 3) := by decide +kernel
theorem dX2_stays_15 : decode cX2_stays 15 = .ok (.iconst (-1), 1) := by decide +kernel
theorem dX2_stays_16 : decode cX2_stays 16 = .ok (.ireturn, 1) := by decide +kernel
set_option maxRecDepth 20000 in
theorem ggX2_old_X2_isHost : GoodIn wsX2_old wsX2_isHost := goodIn_r _ [6, 7, 8, 5, 9] (by decide +kernel) (by decide +kernel)
set_option maxRecDepth 20000 in
theorem gX2_old_X2_isHost : GoodIn wsX2_old (va_wsS RX2 47 yX2_isHost wsX2_isHost) := goodIn_app (goodIn_of _ (by decide +kernel)) ggX2_old_X2_isHost
set_option maxRecDepth 20000 in
theorem ggX2_old_X2_within : GoodIn wsX2_old wsX2_within := goodIn_r _ [9] (by decide +kernel) (by decide +kernel)
set_option maxRecDepth 20000 in
theorem gX2_old_X2_within : GoodIn wsX2_old (va_wsS RX2 35 yX2_within wsX2_within) := goodIn_app (goodIn_of _ (by decide +kernel)) ggX2_old_X2_within
set_option maxRecDepth 20000 in
theorem ggX2_old_X2_onHost : GoodIn wsX2_old wsX2_onHost := goodIn_r _ [13, 1, 14, 15, 16, 17, 5, 18, 19, 20, 21, 22, 23, 24, 25, 26, 27, 28, 29, 30, 31] (by decide +kernel) (by decide +kernel)
set_option maxRecDepth 20000 in
theorem gX2_old_X2_onHost : GoodIn wsX2_old (wsV RX2 111 RX2 yX2_onHost wsX2_onHost) := goodIn_app (goodIn_of _ (by decide +kernel)) ggX2_old_X2_onHost
set_option maxRecDepth 20000 in
theorem ggX2_old_X2_has : GoodIn wsX2_old wsX2_has := goodIn_r _ [18] (by decide +kernel) (by decide +kernel)
set_option maxRecDepth 20000 in
theorem gX2_old_X2_has : GoodIn wsX2_old (va_wsS RX2 54 yX2_has wsX2_has) := goodIn_app (goodIn_of _ (by decide +kernel)) ggX2_old_X2_has
theorem dX2_old_0 : decode cX2_old 0 = .ok (.iload_n 1, 1) := by decide +kernel
theorem dX2_old_1 : decode cX2_old 1 = .ok (.invokestatic 47, 3) := by decide +kernel
theorem dX2_old_4 : decode cX2_old 4 = .ok (.ifCond .ne 5, 3) := by decide +kernel
theorem dX2_old_7 : decode cX2_old 7 = .ok (.iconst (-1), 1) := by decide +kernel
theorem dX2_old_8 : decode cX2_old 8 = .ok (.ireturn, 1) := by decide +kernel
theorem dX2_old_9 : decode cX2_old 9 = .ok (.iload_n 2, 1) := by decide +kernel
theorem dX2_old_10 : decode cX2_old 10 = .ok (.iconst 0, 1) := by decide +kernel
theorem dX2_old_11 : decode cX2_old 11 = .ok (.bipush 9, 2) := by decide +kernel
theorem dX2_old_13 : decode cX2_old 13 = .ok (.invokestatic 35, 3) := by decide +kernel
theorem dX2_old_16 : decode cX2_old 16 = .ok (.ifCond .ne 6, 3) := by decide +kernel
theorem dX2_old_19 : decode cX2_old 19 = .ok (.bipush (-2), 2) := by decide +kernel
theorem dX2_old_21 : decode cX2_old 21 = .ok (.ireturn, 1) := by decide +kernel
theorem dX2_old_22 : decode cX2_old 22 = .ok (.iconst 0, 1) := by decide +kernel
theorem dX2_old_23 : decode cX2_old 23 = .ok (.istore_n 3, 1) := by decide +kernel
theorem dX2_old_24 : decode cX2_old 24 = .ok (.aload_n 0, 1) := by decide +kernel
theorem dX2_old_25 : decode cX2_old 25 = .ok (.iload_n 1, 1) := by decide +kernel
theorem dX2_old_26 : decode cX2_old 26 = .ok (.invokevirtual 111, 3) := by decide +kernel
theorem dX2_old_29 : decode cX2_old 29 = .ok (.istore 4, 2) := by decide +kernel
theorem dX2_old_31 : decode cX2_old 31 = .ok (.iconst 0, 1) := by decide +kernel
theorem dX2_old_32 : decode cX2_old 32 = .ok (.istore 5, 2) := by decide +kernel
theorem dX2_old_34 : decode cX2_old 34 = .ok (.iload 5, 2) := by decide +kernel
theorem dX2_old_36 : decode cX2_old 36 = .ok (.aload_n 0, 1) := by decide +kernel
theorem dX2_old_37 : decode cX2_old 37 = .ok (.getfield 39, 3) := by decide +kernel
theorem dX2_old_40 : decode cX2_old 40 = .ok (.if_icmp .ge 41, 3) := by decide +kernel
theorem dX2_old_43 : decode cX2_old 43 = .ok (.iload_n 3, 1) := by decide +kernel
theorem dX2_old_44 : decode cX2_old 44 = .ok (.iload 4, 2) := by decide +kernel
theorem dX2_old_46 : decode cX2_old 46 = .ok (.iload 5, 2) := by decide +kernel
theorem dX2_old_48 : decode cX2_old 48 = .ok (.invokestatic 54, 3) := by decide +kernel
theorem dX2_old_51 : decode cX2_old 51 = .ok (.ifCond .eq 21, 3) := by decide +kernel
theorem dX2_old_54 : decode cX2_old 54 = .ok (.aload_n 0, 1) := by decide +kernel
theorem dX2_old_55 : decode cX2_old 55 = .ok (.getfield 20, 3) := by decide +kernel
theorem dX2_old_58 : decode cX2_old 58 = .ok (.iload 5, 2) := by decide +kernel
theorem dX2_old_60 : decode cX2_old 60 = .ok (.iaload, 1) := by decide +kernel
theorem dX2_old_61 : decode cX2_old 61 = .ok (.iload_n 2, 1) := by decide +kernel
theorem dX2_old_62 : decode cX2_old 62 = .ok (.if_icmp .lt 10, 3) := by decide +kernel
theorem dX2_old_65 : decode cX2_old 65 = .ok (.iconst 1, 1) := by decide +kernel
theorem dX2_old_66 : decode cX2_old 66 = .ok (.iload 5, 2) := by decide +kernel
theorem dX2_old_68 : decode cX2_old 68 = .ok (.ishl, 1) := by decide +kernel
theorem dX2_old_69 : decode cX2_old 69 = .ok (.goto 4, 3) := by decide +kernel
theorem dX2_old_72 : decode cX2_old 72 = .ok (.iconst 0, 1) := by decide +kernel
theorem dX2_old_73 : decode cX2_old 73 = .ok (.ior, 1) := by decide +kernel
theorem dX2_old_74 : decode cX2_old 74 = .ok (.istore_n 3, 1) := by decide +kernel
theorem dX2_old_75 : decode cX2_old 75 = .ok (.iinc 5 1, 3) := by decide +kernel
theorem dX2_old_78 : decode cX2_old 78 = .ok (.goto (-44), 3) := by decide +kernel
theorem dX2_old_81 : decode cX2_old 81 = .ok (.iload_n 3, 1) := by decide +kernel
theorem dX2_old_82 : decode cX2_old 82 = .ok (.ireturn, 1) := by decide +kernel
set_option maxRecDepth 20000 in
theorem ggX2_backOf_X2_has : GoodIn wsX2_backOf wsX2_has := goodIn_r _ [5] (by decide +kernel) (by decide +kernel)
set_option maxRecDepth 20000 in
theorem gX2_backOf_X2_has : GoodIn wsX2_backOf (va_wsS RX2 54 yX2_has wsX2_has) := goodIn_app (goodIn_of _ (by decide +kernel)) ggX2_backOf_X2_has
set_option maxRecDepth 20000 in
theorem ggX2_backOf_X2_toOf : GoodIn wsX2_backOf wsX2_toOf := goodIn_r _ [9, 1, 10, 11, 12, 4, 13, 14, 15, 16, 17, 18, 19, 20, 21, 22, 23, 24, 25, 26, 27, 28, 29, 30, 31] (by decide +kernel) (by decide +kernel)
set_option maxRecDepth 20000 in
theorem gX2_backOf_X2_toOf : GoodIn wsX2_backOf (wsV RX2 84 RX2 yX2_toOf wsX2_toOf) := goodIn_app (goodIn_of _ (by decide +kernel)) ggX2_backOf_X2_toOf
theorem dX2_backOf_0 : decode cX2_backOf 0 = .ok (.iconst 1, 1) := by decide +kernel
theorem dX2_backOf_1 : decode cX2_backOf 1 = .ok (.iload_n 1, 1) := by decide +kernel
theorem dX2_backOf_2 : decode cX2_backOf 2 = .ok (.ishl, 1) := by decide +kernel
theorem dX2_backOf_3 : decode cX2_backOf 3 = .ok (.istore_n 2, 1) := by decide +kernel
theorem dX2_backOf_4 : decode cX2_backOf 4 = .ok (.iconst 0, 1) := by decide +kernel
theorem dX2_backOf_5 : decode cX2_backOf 5 = .ok (.istore_n 3, 1) := by decide +kernel
theorem dX2_backOf_6 : decode cX2_backOf 6 = .ok (.iload_n 3, 1) := by decide +kernel
theorem dX2_backOf_7 : decode cX2_backOf 7 = .ok (.iload_n 2, 1) := by decide +kernel
theorem dX2_backOf_8 : decode cX2_backOf 8 = .ok (.if_icmp .eq 48, 3) := by decide +kernel
theorem dX2_backOf_11 : decode cX2_backOf 11 = .ok (.iload_n 2, 1) := by decide +kernel
theorem dX2_backOf_12 : decode cX2_backOf 12 = .ok (.istore_n 3, 1) := by decide +kernel
theorem dX2_backOf_13 : decode cX2_backOf 13 = .ok (.iconst 0, 1) := by decide +kernel
theorem dX2_backOf_14 : decode cX2_backOf 14 = .ok (.istore 4, 2) := by decide +kernel
theorem dX2_backOf_16 : decode cX2_backOf 16 = .ok (.iload 4, 2) := by decide +kernel
theorem dX2_backOf_18 : decode cX2_backOf 18 = .ok (.aload_n 0, 1) := by decide +kernel
theorem dX2_backOf_19 : decode cX2_backOf 19 = .ok (.getfield 39, 3) := by decide +kernel
theorem dX2_backOf_22 : decode cX2_backOf 22 = .ok (.if_icmp .ge 31, 3) := by decide +kernel
theorem dX2_backOf_25 : decode cX2_backOf 25 = .ok (.iload_n 2, 1) := by decide +kernel
theorem dX2_backOf_26 : decode cX2_backOf 26 = .ok (.iload_n 3, 1) := by decide +kernel
theorem dX2_backOf_27 : decode cX2_backOf 27 = .ok (.iload 4, 2) := by decide +kernel
theorem dX2_backOf_29 : decode cX2_backOf 29 = .ok (.invokestatic 54, 3) := by decide +kernel
theorem dX2_backOf_32 : decode cX2_backOf 32 = .ok (.ifCond .eq 12, 3) := by decide +kernel
theorem dX2_backOf_35 : decode cX2_backOf 35 = .ok (.aload_n 0, 1) := by decide +kernel
theorem dX2_backOf_36 : decode cX2_backOf 36 = .ok (.iload 4, 2) := by decide +kernel
theorem dX2_backOf_38 : decode cX2_backOf 38 = .ok (.invokevirtual 84, 3) := by decide +kernel
theorem dX2_backOf_41 : decode cX2_backOf 41 = .ok (.goto 4, 3) := by decide +kernel
theorem dX2_backOf_44 : decode cX2_backOf 44 = .ok (.iconst 0, 1) := by decide +kernel
theorem dX2_backOf_45 : decode cX2_backOf 45 = .ok (.ior, 1) := by decide +kernel
theorem dX2_backOf_46 : decode cX2_backOf 46 = .ok (.istore_n 2, 1) := by decide +kernel
theorem dX2_backOf_47 : decode cX2_backOf 47 = .ok (.iinc 4 1, 3) := by decide +kernel
theorem dX2_backOf_50 : decode cX2_backOf 50 = .ok (.goto (-34), 3) := by decide +kernel
theorem dX2_backOf_53 : decode cX2_backOf 53 = .ok (.goto (-47), 3) := by decide +kernel
theorem dX2_backOf_56 : decode cX2_backOf 56 = .ok (.iload_n 2, 1) := by decide +kernel
theorem dX2_backOf_57 : decode cX2_backOf 57 = .ok (.ireturn, 1) := by decide +kernel
set_option maxRecDepth 20000 in
theorem ggX2_heldBy_X2_has : GoodIn wsX2_heldBy wsX2_has := goodIn_r _ [7] (by decide +kernel) (by decide +kernel)
set_option maxRecDepth 20000 in
theorem gX2_heldBy_X2_has : GoodIn wsX2_heldBy (va_wsS RX2 54 yX2_has wsX2_has) := goodIn_app (goodIn_of _ (by decide +kernel)) ggX2_heldBy_X2_has
set_option maxRecDepth 20000 in
theorem ggX2_heldBy_X2_rootsOf : GoodIn wsX2_heldBy wsX2_rootsOf := goodIn_r _ [11, 12, 13, 4, 5, 6, 7, 14, 15, 16, 17, 18, 19, 20, 21, 22, 23, 24, 25, 26] (by decide +kernel) (by decide +kernel)
set_option maxRecDepth 20000 in
theorem gX2_heldBy_X2_rootsOf : GoodIn wsX2_heldBy (wsV RX2 114 RX2 yX2_rootsOf wsX2_rootsOf) := goodIn_app (goodIn_of _ (by decide +kernel)) ggX2_heldBy_X2_rootsOf
theorem dX2_heldBy_0 : decode cX2_heldBy 0 = .ok (.iconst 0, 1) := by decide +kernel
theorem dX2_heldBy_1 : decode cX2_heldBy 1 = .ok (.istore_n 2, 1) := by decide +kernel
theorem dX2_heldBy_2 : decode cX2_heldBy 2 = .ok (.iconst 0, 1) := by decide +kernel
theorem dX2_heldBy_3 : decode cX2_heldBy 3 = .ok (.istore_n 3, 1) := by decide +kernel
theorem dX2_heldBy_4 : decode cX2_heldBy 4 = .ok (.iload_n 3, 1) := by decide +kernel
theorem dX2_heldBy_5 : decode cX2_heldBy 5 = .ok (.aload_n 0, 1) := by decide +kernel
theorem dX2_heldBy_6 : decode cX2_heldBy 6 = .ok (.getfield 74, 3) := by decide +kernel
theorem dX2_heldBy_9 : decode cX2_heldBy 9 = .ok (.if_icmp .ge 43, 3) := by decide +kernel
theorem dX2_heldBy_12 : decode cX2_heldBy 12 = .ok (.iload_n 2, 1) := by decide +kernel
theorem dX2_heldBy_13 : decode cX2_heldBy 13 = .ok (.ifCond .ne 27, 3) := by decide +kernel
theorem dX2_heldBy_16 : decode cX2_heldBy 16 = .ok (.aload_n 0, 1) := by decide +kernel
theorem dX2_heldBy_17 : decode cX2_heldBy 17 = .ok (.getfield 29, 3) := by decide +kernel
theorem dX2_heldBy_20 : decode cX2_heldBy 20 = .ok (.iload_n 3, 1) := by decide +kernel
theorem dX2_heldBy_21 : decode cX2_heldBy 21 = .ok (.iaload, 1) := by decide +kernel
theorem dX2_heldBy_22 : decode cX2_heldBy 22 = .ok (.bipush (-9), 2) := by decide +kernel
theorem dX2_heldBy_24 : decode cX2_heldBy 24 = .ok (.if_icmp .eq 20, 3) := by decide +kernel
theorem dX2_heldBy_27 : decode cX2_heldBy 27 = .ok (.iload_n 1, 1) := by decide +kernel
theorem dX2_heldBy_28 : decode cX2_heldBy 28 = .ok (.aload_n 0, 1) := by decide +kernel
theorem dX2_heldBy_29 : decode cX2_heldBy 29 = .ok (.getfield 26, 3) := by decide +kernel
theorem dX2_heldBy_32 : decode cX2_heldBy 32 = .ok (.iload_n 3, 1) := by decide +kernel
theorem dX2_heldBy_33 : decode cX2_heldBy 33 = .ok (.iaload, 1) := by decide +kernel
theorem dX2_heldBy_34 : decode cX2_heldBy 34 = .ok (.invokestatic 54, 3) := by decide +kernel
theorem dX2_heldBy_37 : decode cX2_heldBy 37 = .ok (.ifCond .eq 7, 3) := by decide +kernel
theorem dX2_heldBy_40 : decode cX2_heldBy 40 = .ok (.iconst 1, 1) := by decide +kernel
theorem dX2_heldBy_41 : decode cX2_heldBy 41 = .ok (.goto 4, 3) := by decide +kernel
theorem dX2_heldBy_44 : decode cX2_heldBy 44 = .ok (.iconst 0, 1) := by decide +kernel
theorem dX2_heldBy_45 : decode cX2_heldBy 45 = .ok (.istore_n 2, 1) := by decide +kernel
theorem dX2_heldBy_46 : decode cX2_heldBy 46 = .ok (.iinc 3 1, 3) := by decide +kernel
theorem dX2_heldBy_49 : decode cX2_heldBy 49 = .ok (.goto (-45), 3) := by decide +kernel
theorem dX2_heldBy_52 : decode cX2_heldBy 52 = .ok (.aload_n 0, 1) := by decide +kernel
theorem dX2_heldBy_53 : decode cX2_heldBy 53 = .ok (.iload_n 1, 1) := by decide +kernel
theorem dX2_heldBy_54 : decode cX2_heldBy 54 = .ok (.invokevirtual 114, 3) := by decide +kernel
theorem dX2_heldBy_57 : decode cX2_heldBy 57 = .ok (.ifCond .eq 7, 3) := by decide +kernel
theorem dX2_heldBy_60 : decode cX2_heldBy 60 = .ok (.iconst 1, 1) := by decide +kernel
theorem dX2_heldBy_61 : decode cX2_heldBy 61 = .ok (.goto 12, 3) := by decide +kernel
theorem dX2_heldBy_64 : decode cX2_heldBy 64 = .ok (.iload_n 2, 1) := by decide +kernel
theorem dX2_heldBy_65 : decode cX2_heldBy 65 = .ok (.ifCond .eq 7, 3) := by decide +kernel
theorem dX2_heldBy_68 : decode cX2_heldBy 68 = .ok (.iconst 2, 1) := by decide +kernel
theorem dX2_heldBy_69 : decode cX2_heldBy 69 = .ok (.goto 4, 3) := by decide +kernel
theorem dX2_heldBy_72 : decode cX2_heldBy 72 = .ok (.iconst 0, 1) := by decide +kernel
theorem dX2_heldBy_73 : decode cX2_heldBy 73 = .ok (.ireturn, 1) := by decide +kernel
set_option maxRecDepth 20000 in
theorem ggX2_trace_X2_isObject : GoodIn wsX2_trace wsX2_isObject := goodIn_r _ [6, 7, 8, 9, 5, 10, 55, 56, 57, 58, 59, 60, 61, 62, 63, 64, 65, 66, 67] (by decide +kernel) (by decide +kernel)
set_option maxRecDepth 20000 in
theorem gX2_trace_X2_isObject : GoodIn wsX2_trace (wsV RX2 58 RX2 yX2_isObject wsX2_isObject) := goodIn_app (goodIn_of _ (by decide +kernel)) ggX2_trace_X2_isObject
set_option maxRecDepth 20000 in
theorem ggX2_trace_X2_has : GoodIn wsX2_trace wsX2_has := goodIn_r _ [13] (by decide +kernel) (by decide +kernel)
set_option maxRecDepth 20000 in
theorem gX2_trace_X2_has : GoodIn wsX2_trace (va_wsS RX2 54 yX2_has wsX2_has) := goodIn_app (goodIn_of _ (by decide +kernel)) ggX2_trace_X2_has
set_option maxRecDepth 20000 in
theorem ggX2_trace_X2_backOf : GoodIn wsX2_trace wsX2_backOf := goodIn_r _ [17, 7, 11, 12, 5, 13, 18, 19, 20, 21, 22, 23, 24, 25, 26, 27, 28, 29, 30, 55, 56, 57, 58, 59, 60, 61, 62, 63, 64, 65, 66, 67] (by decide +kernel) (by decide +kernel)
set_option maxRecDepth 20000 in
theorem gX2_trace_X2_backOf : GoodIn wsX2_trace (wsV RX2 133 RX2 yX2_backOf wsX2_backOf) := goodIn_app (goodIn_of _ (by decide +kernel)) ggX2_trace_X2_backOf
set_option maxRecDepth 20000 in
theorem ggX2_trace_X2_heldBy : GoodIn wsX2_trace wsX2_heldBy := goodIn_r _ [34, 35, 36, 37, 11, 12, 5, 13, 38, 39, 40, 41, 7, 42, 55, 56, 57, 58, 59, 60, 61, 62, 63, 64, 65, 66, 67] (by decide +kernel) (by decide +kernel)
set_option maxRecDepth 20000 in
theorem gX2_trace_X2_heldBy : GoodIn wsX2_trace (wsV RX2 136 RX2 yX2_heldBy wsX2_heldBy) := goodIn_app (goodIn_of _ (by decide +kernel)) ggX2_trace_X2_heldBy
set_option maxRecDepth 20000 in
theorem ggX2_trace_X2_become : GoodIn wsX2_trace wsX2_become := goodIn_r _ [46, 1, 30, 11, 12, 5, 13, 47, 48, 49, 50, 37, 35, 36, 51, 52, 53, 54, 55, 56, 57, 58, 59, 60, 61, 62, 63, 64, 65, 66, 67] (by decide +kernel) (by decide +kernel)
set_option maxRecDepth 20000 in
theorem gX2_trace_X2_become : GoodIn wsX2_trace (wsV RX2 126 RX2 yX2_become wsX2_become) := goodIn_app (goodIn_of _ (by decide +kernel)) ggX2_trace_X2_become
theorem dX2_trace_0 : decode cX2_trace 0 = .ok (.aload_n 0, 1) := by decide +kernel
theorem dX2_trace_1 : decode cX2_trace 1 = .ok (.iload_n 1, 1) := by decide +kernel
theorem dX2_trace_2 : decode cX2_trace 2 = .ok (.invokevirtual 58, 3) := by decide +kernel
theorem dX2_trace_5 : decode cX2_trace 5 = .ok (.ifCond .ne 5, 3) := by decide +kernel
theorem dX2_trace_8 : decode cX2_trace 8 = .ok (.iconst (-1), 1) := by decide +kernel
theorem dX2_trace_9 : decode cX2_trace 9 = .ok (.ireturn, 1) := by decide +kernel
theorem dX2_trace_10 : decode cX2_trace 10 = .ok (.aload_n 0, 1) := by decide +kernel
theorem dX2_trace_11 : decode cX2_trace 11 = .ok (.getfield 61, 3) := by decide +kernel
theorem dX2_trace_14 : decode cX2_trace 14 = .ok (.iload_n 1, 1) := by decide +kernel
theorem dX2_trace_15 : decode cX2_trace 15 = .ok (.invokestatic 54, 3) := by decide +kernel
theorem dX2_trace_18 : decode cX2_trace 18 = .ok (.ifCond .eq 6, 3) := by decide +kernel
theorem dX2_trace_21 : decode cX2_trace 21 = .ok (.bipush (-3), 2) := by decide +kernel
theorem dX2_trace_23 : decode cX2_trace 23 = .ok (.ireturn, 1) := by decide +kernel
theorem dX2_trace_24 : decode cX2_trace 24 = .ok (.aload_n 0, 1) := by decide +kernel
theorem dX2_trace_25 : decode cX2_trace 25 = .ok (.iload_n 1, 1) := by decide +kernel
theorem dX2_trace_26 : decode cX2_trace 26 = .ok (.invokevirtual 133, 3) := by decide +kernel
theorem dX2_trace_29 : decode cX2_trace 29 = .ok (.istore_n 2, 1) := by decide +kernel
theorem dX2_trace_30 : decode cX2_trace 30 = .ok (.aload_n 0, 1) := by decide +kernel
theorem dX2_trace_31 : decode cX2_trace 31 = .ok (.iload_n 2, 1) := by decide +kernel
theorem dX2_trace_32 : decode cX2_trace 32 = .ok (.invokevirtual 136, 3) := by decide +kernel
theorem dX2_trace_35 : decode cX2_trace 35 = .ok (.ifCond .ne 12, 3) := by decide +kernel
theorem dX2_trace_38 : decode cX2_trace 38 = .ok (.aload_n 0, 1) := by decide +kernel
theorem dX2_trace_39 : decode cX2_trace 39 = .ok (.iload_n 2, 1) := by decide +kernel
theorem dX2_trace_40 : decode cX2_trace 40 = .ok (.iconst 1, 1) := by decide +kernel
theorem dX2_trace_41 : decode cX2_trace 41 = .ok (.invokevirtual 126, 3) := by decide +kernel
theorem dX2_trace_44 : decode cX2_trace 44 = .ok (.goto 4, 3) := by decide +kernel
theorem dX2_trace_47 : decode cX2_trace 47 = .ok (.iconst 0, 1) := by decide +kernel
theorem dX2_trace_48 : decode cX2_trace 48 = .ok (.ireturn, 1) := by decide +kernel
set_option maxRecDepth 20000 in
theorem ggX2_back_X2_isObject : GoodIn wsX2_back wsX2_isObject := goodIn_r _ [6, 7, 8, 9, 5, 10, 43, 44, 45, 46, 47, 48, 49, 50, 51, 52, 53, 54, 55] (by decide +kernel) (by decide +kernel)
set_option maxRecDepth 20000 in
theorem gX2_back_X2_isObject : GoodIn wsX2_back (wsV RX2 58 RX2 yX2_isObject wsX2_isObject) := goodIn_app (goodIn_of _ (by decide +kernel)) ggX2_back_X2_isObject
set_option maxRecDepth 20000 in
theorem ggX2_back_X2_within : GoodIn wsX2_back wsX2_within := goodIn_r _ [10] (by decide +kernel) (by decide +kernel)
set_option maxRecDepth 20000 in
theorem gX2_back_X2_within : GoodIn wsX2_back (va_wsS RX2 35 yX2_within wsX2_within) := goodIn_app (goodIn_of _ (by decide +kernel)) ggX2_back_X2_within
set_option maxRecDepth 20000 in
theorem ggX2_back_X2_has : GoodIn wsX2_back wsX2_has := goodIn_r _ [13] (by decide +kernel) (by decide +kernel)
set_option maxRecDepth 20000 in
theorem gX2_back_X2_has : GoodIn wsX2_back (va_wsS RX2 54 yX2_has wsX2_has) := goodIn_app (goodIn_of _ (by decide +kernel)) ggX2_back_X2_has
set_option maxRecDepth 20000 in
theorem ggX2_back_X2_backOf : GoodIn wsX2_back wsX2_backOf := goodIn_r _ [17, 7, 11, 12, 5, 13, 18, 19, 20, 21, 22, 23, 24, 25, 26, 27, 28, 29, 30, 43, 44, 45, 46, 47, 48, 49, 50, 51, 52, 53, 54, 55] (by decide +kernel) (by decide +kernel)
set_option maxRecDepth 20000 in
theorem gX2_back_X2_backOf : GoodIn wsX2_back (wsV RX2 133 RX2 yX2_backOf wsX2_backOf) := goodIn_app (goodIn_of _ (by decide +kernel)) ggX2_back_X2_backOf
set_option maxRecDepth 20000 in
theorem ggX2_back_X2_heldBy : GoodIn wsX2_back wsX2_heldBy := goodIn_r _ [34, 35, 36, 37, 11, 12, 5, 13, 38, 39, 40, 41, 7, 42, 43, 44, 45, 46, 47, 48, 49, 50, 51, 52, 53, 54, 55] (by decide +kernel) (by decide +kernel)
set_option maxRecDepth 20000 in
theorem gX2_back_X2_heldBy : GoodIn wsX2_back (wsV RX2 136 RX2 yX2_heldBy wsX2_heldBy) := goodIn_app (goodIn_of _ (by decide +kernel)) ggX2_back_X2_heldBy
theorem dX2_back_0 : decode cX2_back 0 = .ok (.aload_n 0, 1) := by decide +kernel
theorem dX2_back_1 : decode cX2_back 1 = .ok (.iload_n 1, 1) := by decide +kernel
theorem dX2_back_2 : decode cX2_back 2 = .ok (.invokevirtual 58, 3) := by decide +kernel
theorem dX2_back_5 : decode cX2_back 5 = .ok (.ifCond .ne 5, 3) := by decide +kernel
theorem dX2_back_8 : decode cX2_back 8 = .ok (.iconst (-1), 1) := by decide +kernel
theorem dX2_back_9 : decode cX2_back 9 = .ok (.ireturn, 1) := by decide +kernel
theorem dX2_back_10 : decode cX2_back 10 = .ok (.iload_n 2, 1) := by decide +kernel
theorem dX2_back_11 : decode cX2_back 11 = .ok (.iconst 0, 1) := by decide +kernel
theorem dX2_back_12 : decode cX2_back 12 = .ok (.iconst 1, 1) := by decide +kernel
theorem dX2_back_13 : decode cX2_back 13 = .ok (.invokestatic 35, 3) := by decide +kernel
theorem dX2_back_16 : decode cX2_back 16 = .ok (.ifCond .ne 6, 3) := by decide +kernel
theorem dX2_back_19 : decode cX2_back 19 = .ok (.bipush (-2), 2) := by decide +kernel
theorem dX2_back_21 : decode cX2_back 21 = .ok (.ireturn, 1) := by decide +kernel
theorem dX2_back_22 : decode cX2_back 22 = .ok (.aload_n 0, 1) := by decide +kernel
theorem dX2_back_23 : decode cX2_back 23 = .ok (.getfield 61, 3) := by decide +kernel
theorem dX2_back_26 : decode cX2_back 26 = .ok (.iload_n 1, 1) := by decide +kernel
theorem dX2_back_27 : decode cX2_back 27 = .ok (.invokestatic 54, 3) := by decide +kernel
theorem dX2_back_30 : decode cX2_back 30 = .ok (.ifCond .eq 6, 3) := by decide +kernel
theorem dX2_back_33 : decode cX2_back 33 = .ok (.bipush (-3), 2) := by decide +kernel
theorem dX2_back_35 : decode cX2_back 35 = .ok (.ireturn, 1) := by decide +kernel
theorem dX2_back_36 : decode cX2_back 36 = .ok (.iload_n 2, 1) := by decide +kernel
theorem dX2_back_37 : decode cX2_back 37 = .ok (.ifCond .ne 11, 3) := by decide +kernel
theorem dX2_back_40 : decode cX2_back 40 = .ok (.aload_n 0, 1) := by decide +kernel
theorem dX2_back_41 : decode cX2_back 41 = .ok (.iload_n 1, 1) := by decide +kernel
theorem dX2_back_42 : decode cX2_back 42 = .ok (.invokevirtual 133, 3) := by decide +kernel
theorem dX2_back_45 : decode cX2_back 45 = .ok (.goto 12, 3) := by decide +kernel
theorem dX2_back_48 : decode cX2_back 48 = .ok (.aload_n 0, 1) := by decide +kernel
theorem dX2_back_49 : decode cX2_back 49 = .ok (.aload_n 0, 1) := by decide +kernel
theorem dX2_back_50 : decode cX2_back 50 = .ok (.iload_n 1, 1) := by decide +kernel
theorem dX2_back_51 : decode cX2_back 51 = .ok (.invokevirtual 133, 3) := by decide +kernel
theorem dX2_back_54 : decode cX2_back 54 = .ok (.invokevirtual 136, 3) := by decide +kernel
theorem dX2_back_57 : decode cX2_back 57 = .ok (.ireturn, 1) := by decide +kernel
set_option maxRecDepth 20000 in
theorem ggX2_kill_X2_isHost : GoodIn wsX2_kill wsX2_isHost := goodIn_r _ [5, 6, 7, 4, 8] (by decide +kernel) (by decide +kernel)
set_option maxRecDepth 20000 in
theorem gX2_kill_X2_isHost : GoodIn wsX2_kill (va_wsS RX2 47 yX2_isHost wsX2_isHost) := goodIn_app (goodIn_of _ (by decide +kernel)) ggX2_kill_X2_isHost
set_option maxRecDepth 20000 in
theorem ggX2_kill_X2_has : GoodIn wsX2_kill wsX2_has := goodIn_r _ [11] (by decide +kernel) (by decide +kernel)
set_option maxRecDepth 20000 in
theorem gX2_kill_X2_has : GoodIn wsX2_kill (va_wsS RX2 54 yX2_has wsX2_has) := goodIn_app (goodIn_of _ (by decide +kernel)) ggX2_kill_X2_has
set_option maxRecDepth 20000 in
theorem ggX2_kill_X2_onHost : GoodIn wsX2_kill wsX2_onHost := goodIn_r _ [15, 16, 17, 18, 9, 10, 4, 11, 35, 36, 37, 38, 39, 40, 41, 42, 43, 44, 45, 46, 47] (by decide +kernel) (by decide +kernel)
set_option maxRecDepth 20000 in
theorem gX2_kill_X2_onHost : GoodIn wsX2_kill (wsV RX2 111 RX2 yX2_onHost wsX2_onHost) := goodIn_app (goodIn_of _ (by decide +kernel)) ggX2_kill_X2_onHost
set_option maxRecDepth 20000 in
theorem ggX2_kill_X2_become : GoodIn wsX2_kill wsX2_become := goodIn_r _ [22, 18, 23, 9, 10, 4, 11, 24, 25, 26, 27, 28, 29, 30, 31, 32, 33, 34, 35, 36, 37, 38, 39, 40, 41, 42, 43, 44, 45, 46, 47] (by decide +kernel) (by decide +kernel)
set_option maxRecDepth 20000 in
theorem gX2_kill_X2_become : GoodIn wsX2_kill (wsV RX2 126 RX2 yX2_become wsX2_become) := goodIn_app (goodIn_of _ (by decide +kernel)) ggX2_kill_X2_become
theorem dX2_kill_0 : decode cX2_kill 0 = .ok (.iload_n 1, 1) := by decide +kernel
theorem dX2_kill_1 : decode cX2_kill 1 = .ok (.invokestatic 47, 3) := by decide +kernel
theorem dX2_kill_4 : decode cX2_kill 4 = .ok (.ifCond .ne 5, 3) := by decide +kernel
theorem dX2_kill_7 : decode cX2_kill 7 = .ok (.iconst (-1), 1) := by decide +kernel
theorem dX2_kill_8 : decode cX2_kill 8 = .ok (.ireturn, 1) := by decide +kernel
theorem dX2_kill_9 : decode cX2_kill 9 = .ok (.aload_n 0, 1) := by decide +kernel
theorem dX2_kill_10 : decode cX2_kill 10 = .ok (.getfield 51, 3) := by decide +kernel
theorem dX2_kill_13 : decode cX2_kill 13 = .ok (.iload_n 1, 1) := by decide +kernel
theorem dX2_kill_14 : decode cX2_kill 14 = .ok (.invokestatic 54, 3) := by decide +kernel
theorem dX2_kill_17 : decode cX2_kill 17 = .ok (.ifCond .eq 6, 3) := by decide +kernel
theorem dX2_kill_20 : decode cX2_kill 20 = .ok (.bipush (-3), 2) := by decide +kernel
theorem dX2_kill_22 : decode cX2_kill 22 = .ok (.ireturn, 1) := by decide +kernel
theorem dX2_kill_23 : decode cX2_kill 23 = .ok (.aload_n 0, 1) := by decide +kernel
theorem dX2_kill_24 : decode cX2_kill 24 = .ok (.aload_n 0, 1) := by decide +kernel
theorem dX2_kill_25 : decode cX2_kill 25 = .ok (.iload_n 1, 1) := by decide +kernel
theorem dX2_kill_26 : decode cX2_kill 26 = .ok (.invokevirtual 111, 3) := by decide +kernel
theorem dX2_kill_29 : decode cX2_kill 29 = .ok (.iconst 0, 1) := by decide +kernel
theorem dX2_kill_30 : decode cX2_kill 30 = .ok (.invokevirtual 126, 3) := by decide +kernel
theorem dX2_kill_33 : decode cX2_kill 33 = .ok (.istore_n 2, 1) := by decide +kernel
theorem dX2_kill_34 : decode cX2_kill 34 = .ok (.aload_n 0, 1) := by decide +kernel
theorem dX2_kill_35 : decode cX2_kill 35 = .ok (.dup, 1) := by decide +kernel
theorem dX2_kill_36 : decode cX2_kill 36 = .ok (.getfield 51, 3) := by decide +kernel
theorem dX2_kill_39 : decode cX2_kill 39 = .ok (.iconst 1, 1) := by decide +kernel
theorem dX2_kill_40 : decode cX2_kill 40 = .ok (.iload_n 1, 1) := by decide +kernel
theorem dX2_kill_41 : decode cX2_kill 41 = .ok (.ishl, 1) := by decide +kernel
theorem dX2_kill_42 : decode cX2_kill 42 = .ok (.ior, 1) := by decide +kernel
theorem dX2_kill_43 : decode cX2_kill 43 = .ok (.putfield 51, 3) := by decide +kernel
theorem dX2_kill_46 : decode cX2_kill 46 = .ok (.iload_n 2, 1) := by decide +kernel
theorem dX2_kill_47 : decode cX2_kill 47 = .ok (.ireturn, 1) := by decide +kernel
set_option maxRecDepth 20000 in
theorem ggX2_heldOf_X2_isLink : GoodIn wsX2_heldOf wsX2_isLink := goodIn_r _ [10, 11, 12, 13, 9, 14, 15, 25, 26, 27, 28, 29, 30, 31, 32, 33, 34, 35, 36, 37] (by decide +kernel) (by decide +kernel)
set_option maxRecDepth 20000 in
theorem gX2_heldOf_X2_isLink : GoodIn wsX2_heldOf (wsV RX2 64 RX2 yX2_isLink wsX2_isLink) := goodIn_app (goodIn_of _ (by decide +kernel)) ggX2_heldOf_X2_isLink
set_option maxRecDepth 20000 in
theorem ggX2_heldOf_X2_linkFrom : GoodIn wsX2_heldOf wsX2_linkFrom := goodIn_r _ [14, 15, 25, 26, 27, 28, 29, 30, 31, 32, 33, 34, 35, 36, 37] (by decide +kernel) (by decide +kernel)
set_option maxRecDepth 20000 in
theorem gX2_heldOf_X2_linkFrom : GoodIn wsX2_heldOf (wsV RX2 43 RX2 yX2_linkFrom wsX2_linkFrom) := goodIn_app (goodIn_of _ (by decide +kernel)) ggX2_heldOf_X2_linkFrom
set_option maxRecDepth 20000 in
theorem ggX2_heldOf_X2_hostFor : GoodIn wsX2_heldOf wsX2_hostFor := goodIn_r _ [19, 20, 21, 3, 25, 26, 27, 28, 29, 30, 31, 32, 33, 34, 35, 36, 37] (by decide +kernel) (by decide +kernel)
set_option maxRecDepth 20000 in
theorem gX2_heldOf_X2_hostFor : GoodIn wsX2_heldOf (wsV RX2 108 RX2 yX2_hostFor wsX2_hostFor) := goodIn_app (goodIn_of _ (by decide +kernel)) ggX2_heldOf_X2_hostFor
set_option maxRecDepth 20000 in
theorem ggX2_heldOf_X2_has : GoodIn wsX2_heldOf wsX2_has := goodIn_r _ [24] (by decide +kernel) (by decide +kernel)
set_option maxRecDepth 20000 in
theorem gX2_heldOf_X2_has : GoodIn wsX2_heldOf (va_wsS RX2 54 yX2_has wsX2_has) := goodIn_app (goodIn_of _ (by decide +kernel)) ggX2_heldOf_X2_has
theorem dX2_heldOf_0 : decode cX2_heldOf 0 = .ok (.iconst 0, 1) := by decide +kernel
theorem dX2_heldOf_1 : decode cX2_heldOf 1 = .ok (.istore_n 3, 1) := by decide +kernel
theorem dX2_heldOf_2 : decode cX2_heldOf 2 = .ok (.iconst 0, 1) := by decide +kernel
theorem dX2_heldOf_3 : decode cX2_heldOf 3 = .ok (.istore 4, 2) := by decide +kernel
theorem dX2_heldOf_5 : decode cX2_heldOf 5 = .ok (.iload 4, 2) := by decide +kernel
theorem dX2_heldOf_7 : decode cX2_heldOf 7 = .ok (.aload_n 0, 1) := by decide +kernel
theorem dX2_heldOf_8 : decode cX2_heldOf 8 = .ok (.getfield 39, 3) := by decide +kernel
theorem dX2_heldOf_11 : decode cX2_heldOf 11 = .ok (.if_icmp .ge 33, 3) := by decide +kernel
theorem dX2_heldOf_14 : decode cX2_heldOf 14 = .ok (.iload_n 3, 1) := by decide +kernel
theorem dX2_heldOf_15 : decode cX2_heldOf 15 = .ok (.aload_n 0, 1) := by decide +kernel
theorem dX2_heldOf_16 : decode cX2_heldOf 16 = .ok (.iload 4, 2) := by decide +kernel
theorem dX2_heldOf_18 : decode cX2_heldOf 18 = .ok (.iload_n 1, 1) := by decide +kernel
theorem dX2_heldOf_19 : decode cX2_heldOf 19 = .ok (.invokevirtual 64, 3) := by decide +kernel
theorem dX2_heldOf_22 : decode cX2_heldOf 22 = .ok (.ifCond .eq 13, 3) := by decide +kernel
theorem dX2_heldOf_25 : decode cX2_heldOf 25 = .ok (.aload_n 0, 1) := by decide +kernel
theorem dX2_heldOf_26 : decode cX2_heldOf 26 = .ok (.iload 4, 2) := by decide +kernel
theorem dX2_heldOf_28 : decode cX2_heldOf 28 = .ok (.iload_n 1, 1) := by decide +kernel
theorem dX2_heldOf_29 : decode cX2_heldOf 29 = .ok (.invokevirtual 43, 3) := by decide +kernel
theorem dX2_heldOf_32 : decode cX2_heldOf 32 = .ok (.goto 4, 3) := by decide +kernel
theorem dX2_heldOf_35 : decode cX2_heldOf 35 = .ok (.iconst 0, 1) := by decide +kernel
theorem dX2_heldOf_36 : decode cX2_heldOf 36 = .ok (.iadd, 1) := by decide +kernel
theorem dX2_heldOf_37 : decode cX2_heldOf 37 = .ok (.istore_n 3, 1) := by decide +kernel
theorem dX2_heldOf_38 : decode cX2_heldOf 38 = .ok (.iinc 4 1, 3) := by decide +kernel
theorem dX2_heldOf_41 : decode cX2_heldOf 41 = .ok (.goto (-36), 3) := by decide +kernel
theorem dX2_heldOf_44 : decode cX2_heldOf 44 = .ok (.iconst 0, 1) := by decide +kernel
theorem dX2_heldOf_45 : decode cX2_heldOf 45 = .ok (.istore 4, 2) := by decide +kernel
theorem dX2_heldOf_47 : decode cX2_heldOf 47 = .ok (.iload 4, 2) := by decide +kernel
theorem dX2_heldOf_49 : decode cX2_heldOf 49 = .ok (.aload_n 0, 1) := by decide +kernel
theorem dX2_heldOf_50 : decode cX2_heldOf 50 = .ok (.getfield 74, 3) := by decide +kernel
theorem dX2_heldOf_53 : decode cX2_heldOf 53 = .ok (.if_icmp .ge 54, 3) := by decide +kernel
theorem dX2_heldOf_56 : decode cX2_heldOf 56 = .ok (.iload_n 3, 1) := by decide +kernel
theorem dX2_heldOf_57 : decode cX2_heldOf 57 = .ok (.aload_n 0, 1) := by decide +kernel
theorem dX2_heldOf_58 : decode cX2_heldOf 58 = .ok (.getfield 26, 3) := by decide +kernel
theorem dX2_heldOf_61 : decode cX2_heldOf 61 = .ok (.iload 4, 2) := by decide +kernel
theorem dX2_heldOf_63 : decode cX2_heldOf 63 = .ok (.iaload, 1) := by decide +kernel
theorem dX2_heldOf_64 : decode cX2_heldOf 64 = .ok (.iload_n 1, 1) := by decide +kernel
theorem dX2_heldOf_65 : decode cX2_heldOf 65 = .ok (.if_icmp .ne 33, 3) := by decide +kernel
theorem dX2_heldOf_68 : decode cX2_heldOf 68 = .ok (.iload_n 2, 1) := by decide +kernel
theorem dX2_heldOf_69 : decode cX2_heldOf 69 = .ok (.ifCond .ne 19, 3) := by decide +kernel
theorem dX2_heldOf_72 : decode cX2_heldOf 72 = .ok (.aload_n 0, 1) := by decide +kernel
theorem dX2_heldOf_73 : decode cX2_heldOf 73 = .ok (.getfield 51, 3) := by decide +kernel
theorem dX2_heldOf_76 : decode cX2_heldOf 76 = .ok (.aload_n 0, 1) := by decide +kernel
theorem dX2_heldOf_77 : decode cX2_heldOf 77 = .ok (.iload 4, 2) := by decide +kernel
theorem dX2_heldOf_79 : decode cX2_heldOf 79 = .ok (.invokevirtual 108, 3) := by decide +kernel
theorem dX2_heldOf_82 : decode cX2_heldOf 82 = .ok (.invokestatic 54, 3) := by decide +kernel
theorem dX2_heldOf_85 : decode cX2_heldOf 85 = .ok (.ifCond .ne 13, 3) := by decide +kernel
theorem dX2_heldOf_88 : decode cX2_heldOf 88 = .ok (.aload_n 0, 1) := by decide +kernel
theorem dX2_heldOf_89 : decode cX2_heldOf 89 = .ok (.getfield 32, 3) := by decide +kernel
theorem dX2_heldOf_92 : decode cX2_heldOf 92 = .ok (.iload 4, 2) := by decide +kernel
theorem dX2_heldOf_94 : decode cX2_heldOf 94 = .ok (.iaload, 1) := by decide +kernel
theorem dX2_heldOf_95 : decode cX2_heldOf 95 = .ok (.goto 4, 3) := by decide +kernel
theorem dX2_heldOf_98 : decode cX2_heldOf 98 = .ok (.iconst 0, 1) := by decide +kernel
theorem dX2_heldOf_99 : decode cX2_heldOf 99 = .ok (.iadd, 1) := by decide +kernel
theorem dX2_heldOf_100 : decode cX2_heldOf 100 = .ok (.istore_n 3, 1) := by decide +kernel
theorem dX2_heldOf_101 : decode cX2_heldOf 101 = .ok (.iinc 4 1, 3) := by decide +kernel
theorem dX2_heldOf_104 : decode cX2_heldOf 104 = .ok (.goto (-57), 3) := by decide +kernel
theorem dX2_heldOf_107 : decode cX2_heldOf 107 = .ok (.iload_n 3, 1) := by decide +kernel
theorem dX2_heldOf_108 : decode cX2_heldOf 108 = .ok (.ireturn, 1) := by decide +kernel
set_option maxRecDepth 20000 in
theorem ggX2_recover_X2_has : GoodIn wsX2_recover wsX2_has := goodIn_r _ [7] (by decide +kernel) (by decide +kernel)
set_option maxRecDepth 20000 in
theorem gX2_recover_X2_has : GoodIn wsX2_recover (va_wsS RX2 54 yX2_has wsX2_has) := goodIn_app (goodIn_of _ (by decide +kernel)) ggX2_recover_X2_has
set_option maxRecDepth 20000 in
theorem ggX2_recover_X2_heldOf : GoodIn wsX2_recover wsX2_heldOf := goodIn_r _ [11, 1, 12, 13, 14, 15, 16, 17, 18, 6, 19, 20, 21, 22, 23, 24, 25, 26, 27, 28, 29, 30, 4, 5, 7, 31, 32, 33, 34, 35, 36, 37, 38, 39, 40, 41, 42, 43] (by decide +kernel) (by decide +kernel)
set_option maxRecDepth 20000 in
theorem gX2_recover_X2_heldOf : GoodIn wsX2_recover (wsV RX2 139 RX2 yX2_heldOf wsX2_heldOf) := goodIn_app (goodIn_of _ (by decide +kernel)) ggX2_recover_X2_heldOf
theorem dX2_recover_0 : decode cX2_recover 0 = .ok (.iconst 0, 1) := by decide +kernel
theorem dX2_recover_1 : decode cX2_recover 1 = .ok (.istore_n 1, 1) := by decide +kernel
theorem dX2_recover_2 : decode cX2_recover 2 = .ok (.iconst 0, 1) := by decide +kernel
theorem dX2_recover_3 : decode cX2_recover 3 = .ok (.istore_n 2, 1) := by decide +kernel
theorem dX2_recover_4 : decode cX2_recover 4 = .ok (.iload_n 2, 1) := by decide +kernel
theorem dX2_recover_5 : decode cX2_recover 5 = .ok (.aload_n 0, 1) := by decide +kernel
theorem dX2_recover_6 : decode cX2_recover 6 = .ok (.getfield 39, 3) := by decide +kernel
theorem dX2_recover_9 : decode cX2_recover 9 = .ok (.if_icmp .ge 45, 3) := by decide +kernel
theorem dX2_recover_12 : decode cX2_recover 12 = .ok (.aload_n 0, 1) := by decide +kernel
theorem dX2_recover_13 : decode cX2_recover 13 = .ok (.getfield 61, 3) := by decide +kernel
theorem dX2_recover_16 : decode cX2_recover 16 = .ok (.iload_n 2, 1) := by decide +kernel
theorem dX2_recover_17 : decode cX2_recover 17 = .ok (.invokestatic 54, 3) := by decide +kernel
theorem dX2_recover_20 : decode cX2_recover 20 = .ok (.ifCond .ne 28, 3) := by decide +kernel
theorem dX2_recover_23 : decode cX2_recover 23 = .ok (.aload_n 0, 1) := by decide +kernel
theorem dX2_recover_24 : decode cX2_recover 24 = .ok (.iload_n 2, 1) := by decide +kernel
theorem dX2_recover_25 : decode cX2_recover 25 = .ok (.iconst 0, 1) := by decide +kernel
theorem dX2_recover_26 : decode cX2_recover 26 = .ok (.invokevirtual 139, 3) := by decide +kernel
theorem dX2_recover_29 : decode cX2_recover 29 = .ok (.istore_n 3, 1) := by decide +kernel
theorem dX2_recover_30 : decode cX2_recover 30 = .ok (.iload_n 1, 1) := by decide +kernel
theorem dX2_recover_31 : decode cX2_recover 31 = .ok (.aload_n 0, 1) := by decide +kernel
theorem dX2_recover_32 : decode cX2_recover 32 = .ok (.getfield 17, 3) := by decide +kernel
theorem dX2_recover_35 : decode cX2_recover 35 = .ok (.iload_n 2, 1) := by decide +kernel
theorem dX2_recover_36 : decode cX2_recover 36 = .ok (.iaload, 1) := by decide +kernel
theorem dX2_recover_37 : decode cX2_recover 37 = .ok (.iload_n 3, 1) := by decide +kernel
theorem dX2_recover_38 : decode cX2_recover 38 = .ok (.isub, 1) := by decide +kernel
theorem dX2_recover_39 : decode cX2_recover 39 = .ok (.iadd, 1) := by decide +kernel
theorem dX2_recover_40 : decode cX2_recover 40 = .ok (.istore_n 1, 1) := by decide +kernel
theorem dX2_recover_41 : decode cX2_recover 41 = .ok (.aload_n 0, 1) := by decide +kernel
theorem dX2_recover_42 : decode cX2_recover 42 = .ok (.getfield 17, 3) := by decide +kernel
theorem dX2_recover_45 : decode cX2_recover 45 = .ok (.iload_n 2, 1) := by decide +kernel
theorem dX2_recover_46 : decode cX2_recover 46 = .ok (.iload_n 3, 1) := by decide +kernel
theorem dX2_recover_47 : decode cX2_recover 47 = .ok (.iastore, 1) := by decide +kernel
theorem dX2_recover_48 : decode cX2_recover 48 = .ok (.iinc 2 1, 3) := by decide +kernel
theorem dX2_recover_51 : decode cX2_recover 51 = .ok (.goto (-47), 3) := by decide +kernel
theorem dX2_recover_54 : decode cX2_recover 54 = .ok (.iload_n 1, 1) := by decide +kernel
theorem dX2_recover_55 : decode cX2_recover 55 = .ok (.ireturn, 1) := by decide +kernel
set_option maxRecDepth 20000 in
theorem ggX2_collectsAll_X2_has : GoodIn wsX2_collectsAll wsX2_has := goodIn_r _ [5] (by decide +kernel) (by decide +kernel)
set_option maxRecDepth 20000 in
theorem gX2_collectsAll_X2_has : GoodIn wsX2_collectsAll (va_wsS RX2 54 yX2_has wsX2_has) := goodIn_app (goodIn_of _ (by decide +kernel)) ggX2_collectsAll_X2_has
set_option maxRecDepth 20000 in
theorem ggX2_collectsAll_X2_collects : GoodIn wsX2_collectsAll wsX2_collects := goodIn_r _ [9, 10, 11, 12, 13, 14, 4, 15, 16, 17, 2, 3, 5, 18, 19, 20, 21, 22, 23, 24, 25, 26, 27, 28, 29, 30, 31, 32, 33, 34, 35, 36, 37, 38, 39, 40, 41, 42, 43, 44, 45, 46, 47, 48, 49, 50, 51, 52, 53, 54, 55, 56, 57, 58, 59, 60, 61, 62, 63, 64, 65, 66, 67, 68, 69, 70, 71, 72] (by decide +kernel) (by decide +kernel)
set_option maxRecDepth 20000 in
theorem gX2_collectsAll_X2_collects : GoodIn wsX2_collectsAll (wsV RX2 130 RX2 yX2_collects wsX2_collects) := goodIn_app (goodIn_of _ (by decide +kernel)) ggX2_collectsAll_X2_collects
theorem dX2_collectsAll_0 : decode cX2_collectsAll 0 = .ok (.iconst 0, 1) := by decide +kernel
theorem dX2_collectsAll_1 : decode cX2_collectsAll 1 = .ok (.istore_n 1, 1) := by decide +kernel
theorem dX2_collectsAll_2 : decode cX2_collectsAll 2 = .ok (.iconst 0, 1) := by decide +kernel
theorem dX2_collectsAll_3 : decode cX2_collectsAll 3 = .ok (.istore_n 2, 1) := by decide +kernel
theorem dX2_collectsAll_4 : decode cX2_collectsAll 4 = .ok (.iload_n 2, 1) := by decide +kernel
theorem dX2_collectsAll_5 : decode cX2_collectsAll 5 = .ok (.iconst 4, 1) := by decide +kernel
theorem dX2_collectsAll_6 : decode cX2_collectsAll 6 = .ok (.if_icmp .ge 32, 3) := by decide +kernel
theorem dX2_collectsAll_9 : decode cX2_collectsAll 9 = .ok (.iload_n 1, 1) := by decide +kernel
theorem dX2_collectsAll_10 : decode cX2_collectsAll 10 = .ok (.aload_n 0, 1) := by decide +kernel
theorem dX2_collectsAll_11 : decode cX2_collectsAll 11 = .ok (.getfield 51, 3) := by decide +kernel
theorem dX2_collectsAll_14 : decode cX2_collectsAll 14 = .ok (.iload_n 2, 1) := by decide +kernel
theorem dX2_collectsAll_15 : decode cX2_collectsAll 15 = .ok (.invokestatic 54, 3) := by decide +kernel
theorem dX2_collectsAll_18 : decode cX2_collectsAll 18 = .ok (.ifCond .eq 7, 3) := by decide +kernel
theorem dX2_collectsAll_21 : decode cX2_collectsAll 21 = .ok (.iconst 0, 1) := by decide +kernel
theorem dX2_collectsAll_22 : decode cX2_collectsAll 22 = .ok (.goto 8, 3) := by decide +kernel
theorem dX2_collectsAll_25 : decode cX2_collectsAll 25 = .ok (.aload_n 0, 1) := by decide +kernel
theorem dX2_collectsAll_26 : decode cX2_collectsAll 26 = .ok (.iload_n 2, 1) := by decide +kernel
theorem dX2_collectsAll_27 : decode cX2_collectsAll 27 = .ok (.invokevirtual 130, 3) := by decide +kernel
theorem dX2_collectsAll_30 : decode cX2_collectsAll 30 = .ok (.iadd, 1) := by decide +kernel
theorem dX2_collectsAll_31 : decode cX2_collectsAll 31 = .ok (.istore_n 1, 1) := by decide +kernel
theorem dX2_collectsAll_32 : decode cX2_collectsAll 32 = .ok (.iinc 2 1, 3) := by decide +kernel
theorem dX2_collectsAll_35 : decode cX2_collectsAll 35 = .ok (.goto (-31), 3) := by decide +kernel
theorem dX2_collectsAll_38 : decode cX2_collectsAll 38 = .ok (.iload_n 1, 1) := by decide +kernel
theorem dX2_collectsAll_39 : decode cX2_collectsAll 39 = .ok (.ireturn, 1) := by decide +kernel
set_option maxRecDepth 20000 in
theorem ggX2_settle_X2_delivers : GoodIn wsX2_settle wsX2_delivers := goodIn_r _ [6, 7, 8, 9, 1, 10, 11, 12, 5, 13, 14, 15, 16, 17, 18, 19, 20, 21, 22, 23, 24, 25, 26, 27, 28, 29, 30, 31, 32, 33, 34, 35, 36, 37, 38, 39, 40, 41, 42, 43, 44, 45, 46, 84, 85, 86, 87, 88, 89, 90, 91, 92, 93, 94, 95, 96] (by decide +kernel) (by decide +kernel)
set_option maxRecDepth 20000 in
theorem gX2_settle_X2_delivers : GoodIn wsX2_settle (wsV RX2 105 RX2 yX2_delivers wsX2_delivers) := goodIn_app (goodIn_of _ (by decide +kernel)) ggX2_settle_X2_delivers
set_option maxRecDepth 20000 in
theorem ggX2_settle_X2_collectsAll : GoodIn wsX2_settle wsX2_collectsAll := goodIn_r _ [50, 16, 18, 19, 5, 20, 51, 52, 53, 54, 55, 38, 56, 57, 58, 59, 17, 14, 60, 61, 62, 63, 15, 64, 65, 66, 67, 68, 69, 70, 71, 72, 73, 74, 75, 76, 39, 40, 41, 42, 43, 44, 45, 46, 37, 77, 78, 79, 80, 29, 30, 31, 32, 7, 1, 8, 9, 81, 82, 83, 84, 85, 86, 87, 88, 89, 90, 91, 92, 93, 94, 95, 96] (by decide +kernel) (by decide +kernel)
set_option maxRecDepth 20000 in
theorem gX2_settle_X2_collectsAll : GoodIn wsX2_settle (wsV RX2 142 RX2 yX2_collectsAll wsX2_collectsAll) := goodIn_app (goodIn_of _ (by decide +kernel)) ggX2_settle_X2_collectsAll
theorem dX2_settle_0 : decode cX2_settle 0 = .ok (.iconst 0, 1) := by decide +kernel
theorem dX2_settle_1 : decode cX2_settle 1 = .ok (.istore_n 1, 1) := by decide +kernel
theorem dX2_settle_2 : decode cX2_settle 2 = .ok (.iconst 1, 1) := by decide +kernel
theorem dX2_settle_3 : decode cX2_settle 3 = .ok (.istore_n 2, 1) := by decide +kernel
theorem dX2_settle_4 : decode cX2_settle 4 = .ok (.iload_n 2, 1) := by decide +kernel
theorem dX2_settle_5 : decode cX2_settle 5 = .ok (.ifCond .eq 48, 3) := by decide +kernel
theorem dX2_settle_8 : decode cX2_settle 8 = .ok (.aload_n 0, 1) := by decide +kernel
theorem dX2_settle_9 : decode cX2_settle 9 = .ok (.getfield 74, 3) := by decide +kernel
theorem dX2_settle_12 : decode cX2_settle 12 = .ok (.ifCond .le 12, 3) := by decide +kernel
theorem dX2_settle_15 : decode cX2_settle 15 = .ok (.aload_n 0, 1) := by decide +kernel
theorem dX2_settle_16 : decode cX2_settle 16 = .ok (.iconst 0, 1) := by decide +kernel
theorem dX2_settle_17 : decode cX2_settle 17 = .ok (.invokevirtual 105, 3) := by decide +kernel
theorem dX2_settle_20 : decode cX2_settle 20 = .ok (.pop, 1) := by decide +kernel
theorem dX2_settle_21 : decode cX2_settle 21 = .ok (.goto (-13), 3) := by decide +kernel
theorem dX2_settle_24 : decode cX2_settle 24 = .ok (.aload_n 0, 1) := by decide +kernel
theorem dX2_settle_25 : decode cX2_settle 25 = .ok (.invokevirtual 142, 3) := by decide +kernel
theorem dX2_settle_28 : decode cX2_settle 28 = .ok (.istore_n 3, 1) := by decide +kernel
theorem dX2_settle_29 : decode cX2_settle 29 = .ok (.iload_n 1, 1) := by decide +kernel
theorem dX2_settle_30 : decode cX2_settle 30 = .ok (.iload_n 3, 1) := by decide +kernel
theorem dX2_settle_31 : decode cX2_settle 31 = .ok (.iadd, 1) := by decide +kernel
theorem dX2_settle_32 : decode cX2_settle 32 = .ok (.istore_n 1, 1) := by decide +kernel
theorem dX2_settle_33 : decode cX2_settle 33 = .ok (.iload_n 3, 1) := by decide +kernel
theorem dX2_settle_34 : decode cX2_settle 34 = .ok (.ifCond .gt 10, 3) := by decide +kernel
theorem dX2_settle_37 : decode cX2_settle 37 = .ok (.aload_n 0, 1) := by decide +kernel
theorem dX2_settle_38 : decode cX2_settle 38 = .ok (.getfield 74, 3) := by decide +kernel
theorem dX2_settle_41 : decode cX2_settle 41 = .ok (.ifCond .le 7, 3) := by decide +kernel
theorem dX2_settle_44 : decode cX2_settle 44 = .ok (.iconst 1, 1) := by decide +kernel
theorem dX2_settle_45 : decode cX2_settle 45 = .ok (.goto 4, 3) := by decide +kernel
theorem dX2_settle_48 : decode cX2_settle 48 = .ok (.iconst 0, 1) := by decide +kernel
theorem dX2_settle_49 : decode cX2_settle 49 = .ok (.istore_n 2, 1) := by decide +kernel
theorem dX2_settle_50 : decode cX2_settle 50 = .ok (.goto (-46), 3) := by decide +kernel
theorem dX2_settle_53 : decode cX2_settle 53 = .ok (.iload_n 1, 1) := by decide +kernel
theorem dX2_settle_54 : decode cX2_settle 54 = .ok (.ireturn, 1) := by decide +kernel
set_option maxRecDepth 20000 in
theorem ggX2_oneOn_X2_has : GoodIn wsX2_oneOn wsX2_has := goodIn_r _ [9] (by decide +kernel) (by decide +kernel)
set_option maxRecDepth 20000 in
theorem gX2_oneOn_X2_has : GoodIn wsX2_oneOn (va_wsS RX2 54 yX2_has wsX2_has) := goodIn_app (goodIn_of _ (by decide +kernel)) ggX2_oneOn_X2_has
set_option maxRecDepth 20000 in
theorem ggX2_oneOn_X2_fromOf : GoodIn wsX2_oneOn wsX2_fromOf := goodIn_r _ [13, 1, 14, 15, 16, 8, 17, 18, 19, 20, 21, 22, 23, 24, 25, 26, 27, 28, 29, 30, 31, 32, 33, 34, 35] (by decide +kernel) (by decide +kernel)
set_option maxRecDepth 20000 in
theorem gX2_oneOn_X2_fromOf : GoodIn wsX2_oneOn (wsV RX2 80 RX2 yX2_fromOf wsX2_fromOf) := goodIn_app (goodIn_of _ (by decide +kernel)) ggX2_oneOn_X2_fromOf
theorem dX2_oneOn_0 : decode cX2_oneOn 0 = .ok (.iconst 0, 1) := by decide +kernel
theorem dX2_oneOn_1 : decode cX2_oneOn 1 = .ok (.istore_n 2, 1) := by decide +kernel
theorem dX2_oneOn_2 : decode cX2_oneOn 2 = .ok (.iconst 0, 1) := by decide +kernel
theorem dX2_oneOn_3 : decode cX2_oneOn 3 = .ok (.istore_n 3, 1) := by decide +kernel
theorem dX2_oneOn_4 : decode cX2_oneOn 4 = .ok (.iload_n 3, 1) := by decide +kernel
theorem dX2_oneOn_5 : decode cX2_oneOn 5 = .ok (.aload_n 0, 1) := by decide +kernel
theorem dX2_oneOn_6 : decode cX2_oneOn 6 = .ok (.getfield 39, 3) := by decide +kernel
theorem dX2_oneOn_9 : decode cX2_oneOn 9 = .ok (.if_icmp .ge 29, 3) := by decide +kernel
theorem dX2_oneOn_12 : decode cX2_oneOn 12 = .ok (.iload_n 2, 1) := by decide +kernel
theorem dX2_oneOn_13 : decode cX2_oneOn 13 = .ok (.iload_n 1, 1) := by decide +kernel
theorem dX2_oneOn_14 : decode cX2_oneOn 14 = .ok (.iload_n 3, 1) := by decide +kernel
theorem dX2_oneOn_15 : decode cX2_oneOn 15 = .ok (.invokestatic 54, 3) := by decide +kernel
theorem dX2_oneOn_18 : decode cX2_oneOn 18 = .ok (.ifCond .eq 11, 3) := by decide +kernel
theorem dX2_oneOn_21 : decode cX2_oneOn 21 = .ok (.aload_n 0, 1) := by decide +kernel
theorem dX2_oneOn_22 : decode cX2_oneOn 22 = .ok (.iload_n 3, 1) := by decide +kernel
theorem dX2_oneOn_23 : decode cX2_oneOn 23 = .ok (.invokevirtual 80, 3) := by decide +kernel
theorem dX2_oneOn_26 : decode cX2_oneOn 26 = .ok (.goto 4, 3) := by decide +kernel
theorem dX2_oneOn_29 : decode cX2_oneOn 29 = .ok (.iconst 0, 1) := by decide +kernel
theorem dX2_oneOn_30 : decode cX2_oneOn 30 = .ok (.ior, 1) := by decide +kernel
theorem dX2_oneOn_31 : decode cX2_oneOn 31 = .ok (.istore_n 2, 1) := by decide +kernel
theorem dX2_oneOn_32 : decode cX2_oneOn 32 = .ok (.iinc 3 1, 3) := by decide +kernel
theorem dX2_oneOn_35 : decode cX2_oneOn 35 = .ok (.goto (-31), 3) := by decide +kernel
theorem dX2_oneOn_38 : decode cX2_oneOn 38 = .ok (.iconst 0, 1) := by decide +kernel
theorem dX2_oneOn_39 : decode cX2_oneOn 39 = .ok (.istore_n 3, 1) := by decide +kernel
theorem dX2_oneOn_40 : decode cX2_oneOn 40 = .ok (.iload_n 3, 1) := by decide +kernel
theorem dX2_oneOn_41 : decode cX2_oneOn 41 = .ok (.aload_n 0, 1) := by decide +kernel
theorem dX2_oneOn_42 : decode cX2_oneOn 42 = .ok (.getfield 74, 3) := by decide +kernel
theorem dX2_oneOn_45 : decode cX2_oneOn 45 = .ok (.if_icmp .ge 76, 3) := by decide +kernel
theorem dX2_oneOn_48 : decode cX2_oneOn 48 = .ok (.aload_n 0, 1) := by decide +kernel
theorem dX2_oneOn_49 : decode cX2_oneOn 49 = .ok (.getfield 29, 3) := by decide +kernel
theorem dX2_oneOn_52 : decode cX2_oneOn 52 = .ok (.iload_n 3, 1) := by decide +kernel
theorem dX2_oneOn_53 : decode cX2_oneOn 53 = .ok (.iaload, 1) := by decide +kernel
theorem dX2_oneOn_54 : decode cX2_oneOn 54 = .ok (.bipush (-9), 2) := by decide +kernel
theorem dX2_oneOn_56 : decode cX2_oneOn 56 = .ok (.if_icmp .eq 36, 3) := by decide +kernel
theorem dX2_oneOn_59 : decode cX2_oneOn 59 = .ok (.iload_n 1, 1) := by decide +kernel
theorem dX2_oneOn_60 : decode cX2_oneOn 60 = .ok (.aload_n 0, 1) := by decide +kernel
theorem dX2_oneOn_61 : decode cX2_oneOn 61 = .ok (.getfield 29, 3) := by decide +kernel
theorem dX2_oneOn_64 : decode cX2_oneOn 64 = .ok (.iload_n 3, 1) := by decide +kernel
theorem dX2_oneOn_65 : decode cX2_oneOn 65 = .ok (.iaload, 1) := by decide +kernel
theorem dX2_oneOn_66 : decode cX2_oneOn 66 = .ok (.invokestatic 54, 3) := by decide +kernel
theorem dX2_oneOn_69 : decode cX2_oneOn 69 = .ok (.ifCond .eq 23, 3) := by decide +kernel
theorem dX2_oneOn_72 : decode cX2_oneOn 72 = .ok (.aload_n 0, 1) := by decide +kernel
theorem dX2_oneOn_73 : decode cX2_oneOn 73 = .ok (.getfield 61, 3) := by decide +kernel
theorem dX2_oneOn_76 : decode cX2_oneOn 76 = .ok (.aload_n 0, 1) := by decide +kernel
theorem dX2_oneOn_77 : decode cX2_oneOn 77 = .ok (.getfield 26, 3) := by decide +kernel
theorem dX2_oneOn_80 : decode cX2_oneOn 80 = .ok (.iload_n 3, 1) := by decide +kernel
theorem dX2_oneOn_81 : decode cX2_oneOn 81 = .ok (.iaload, 1) := by decide +kernel
theorem dX2_oneOn_82 : decode cX2_oneOn 82 = .ok (.invokestatic 54, 3) := by decide +kernel
theorem dX2_oneOn_85 : decode cX2_oneOn 85 = .ok (.ifCond .ne 7, 3) := by decide +kernel
theorem dX2_oneOn_88 : decode cX2_oneOn 88 = .ok (.iconst 1, 1) := by decide +kernel
theorem dX2_oneOn_89 : decode cX2_oneOn 89 = .ok (.goto 4, 3) := by decide +kernel
theorem dX2_oneOn_92 : decode cX2_oneOn 92 = .ok (.iconst 0, 1) := by decide +kernel
theorem dX2_oneOn_93 : decode cX2_oneOn 93 = .ok (.istore 4, 2) := by decide +kernel
theorem dX2_oneOn_95 : decode cX2_oneOn 95 = .ok (.iload_n 2, 1) := by decide +kernel
theorem dX2_oneOn_96 : decode cX2_oneOn 96 = .ok (.iload 4, 2) := by decide +kernel
theorem dX2_oneOn_98 : decode cX2_oneOn 98 = .ok (.ifCond .eq 14, 3) := by decide +kernel
theorem dX2_oneOn_101 : decode cX2_oneOn 101 = .ok (.iconst 1, 1) := by decide +kernel
theorem dX2_oneOn_102 : decode cX2_oneOn 102 = .ok (.aload_n 0, 1) := by decide +kernel
theorem dX2_oneOn_103 : decode cX2_oneOn 103 = .ok (.getfield 26, 3) := by decide +kernel
theorem dX2_oneOn_106 : decode cX2_oneOn 106 = .ok (.iload_n 3, 1) := by decide +kernel
theorem dX2_oneOn_107 : decode cX2_oneOn 107 = .ok (.iaload, 1) := by decide +kernel
theorem dX2_oneOn_108 : decode cX2_oneOn 108 = .ok (.ishl, 1) := by decide +kernel
theorem dX2_oneOn_109 : decode cX2_oneOn 109 = .ok (.goto 4, 3) := by decide +kernel
theorem dX2_oneOn_112 : decode cX2_oneOn 112 = .ok (.iconst 0, 1) := by decide +kernel
theorem dX2_oneOn_113 : decode cX2_oneOn 113 = .ok (.ior, 1) := by decide +kernel
theorem dX2_oneOn_114 : decode cX2_oneOn 114 = .ok (.istore_n 2, 1) := by decide +kernel
theorem dX2_oneOn_115 : decode cX2_oneOn 115 = .ok (.iinc 3 1, 3) := by decide +kernel
theorem dX2_oneOn_118 : decode cX2_oneOn 118 = .ok (.goto (-78), 3) := by decide +kernel
theorem dX2_oneOn_121 : decode cX2_oneOn 121 = .ok (.iload_n 2, 1) := by decide +kernel
theorem dX2_oneOn_122 : decode cX2_oneOn 122 = .ok (.ireturn, 1) := by decide +kernel
set_option maxRecDepth 20000 in
theorem ggX2_allRoots_X2_rootsOf : GoodIn wsX2_allRoots wsX2_rootsOf := goodIn_r _ [7, 1, 8, 9, 10, 6, 11, 12, 13, 14, 15, 16, 17, 18, 19, 20, 21, 22, 23, 24] (by decide +kernel) (by decide +kernel)
set_option maxRecDepth 20000 in
theorem gX2_allRoots_X2_rootsOf : GoodIn wsX2_allRoots (wsV RX2 114 RX2 yX2_rootsOf wsX2_rootsOf) := goodIn_app (goodIn_of _ (by decide +kernel)) ggX2_allRoots_X2_rootsOf
theorem dX2_allRoots_0 : decode cX2_allRoots 0 = .ok (.aload_n 0, 1) := by decide +kernel
theorem dX2_allRoots_1 : decode cX2_allRoots 1 = .ok (.iconst 1, 1) := by decide +kernel
theorem dX2_allRoots_2 : decode cX2_allRoots 2 = .ok (.aload_n 0, 1) := by decide +kernel
theorem dX2_allRoots_3 : decode cX2_allRoots 3 = .ok (.getfield 39, 3) := by decide +kernel
theorem dX2_allRoots_6 : decode cX2_allRoots 6 = .ok (.ishl, 1) := by decide +kernel
theorem dX2_allRoots_7 : decode cX2_allRoots 7 = .ok (.iconst 1, 1) := by decide +kernel
theorem dX2_allRoots_8 : decode cX2_allRoots 8 = .ok (.isub, 1) := by decide +kernel
theorem dX2_allRoots_9 : decode cX2_allRoots 9 = .ok (.aload_n 0, 1) := by decide +kernel
theorem dX2_allRoots_10 : decode cX2_allRoots 10 = .ok (.getfield 61, 3) := by decide +kernel
theorem dX2_allRoots_13 : decode cX2_allRoots 13 = .ok (.iconst (-1), 1) := by decide +kernel
theorem dX2_allRoots_14 : decode cX2_allRoots 14 = .ok (.ixor, 1) := by decide +kernel
theorem dX2_allRoots_15 : decode cX2_allRoots 15 = .ok (.iand, 1) := by decide +kernel
theorem dX2_allRoots_16 : decode cX2_allRoots 16 = .ok (.invokevirtual 114, 3) := by decide +kernel
theorem dX2_allRoots_19 : decode cX2_allRoots 19 = .ok (.ireturn, 1) := by decide +kernel
set_option maxRecDepth 20000 in
theorem ggX2_reachedNow_X2_allRoots : GoodIn wsX2_reachedNow wsX2_allRoots := goodIn_r _ [5, 6, 7, 8, 9, 10, 4, 11, 12, 13, 14, 15, 36, 37, 38, 39, 40, 41, 42, 43, 44, 45, 46, 47, 48] (by decide +kernel) (by decide +kernel)
set_option maxRecDepth 20000 in
theorem gX2_reachedNow_X2_allRoots : GoodIn wsX2_reachedNow (wsV RX2 146 RX2 yX2_allRoots wsX2_allRoots) := goodIn_app (goodIn_of _ (by decide +kernel)) ggX2_reachedNow_X2_allRoots
set_option maxRecDepth 20000 in
theorem ggX2_reachedNow_X2_oneOn : GoodIn wsX2_reachedNow wsX2_oneOn := goodIn_r _ [19, 6, 20, 21, 7, 22, 13, 14, 4, 15, 23, 24, 25, 26, 27, 28, 29, 30, 31, 32, 33, 34, 35, 36, 37, 38, 39, 40, 41, 42, 43, 44, 45, 46, 47, 48] (by decide +kernel) (by decide +kernel)
set_option maxRecDepth 20000 in
theorem gX2_reachedNow_X2_oneOn : GoodIn wsX2_reachedNow (wsV RX2 149 RX2 yX2_oneOn wsX2_oneOn) := goodIn_app (goodIn_of _ (by decide +kernel)) ggX2_reachedNow_X2_oneOn
theorem dX2_reachedNow_0 : decode cX2_reachedNow 0 = .ok (.aload_n 0, 1) := by decide +kernel
theorem dX2_reachedNow_1 : decode cX2_reachedNow 1 = .ok (.invokevirtual 146, 3) := by decide +kernel
theorem dX2_reachedNow_4 : decode cX2_reachedNow 4 = .ok (.istore_n 1, 1) := by decide +kernel
theorem dX2_reachedNow_5 : decode cX2_reachedNow 5 = .ok (.iconst (-1), 1) := by decide +kernel
theorem dX2_reachedNow_6 : decode cX2_reachedNow 6 = .ok (.istore_n 2, 1) := by decide +kernel
theorem dX2_reachedNow_7 : decode cX2_reachedNow 7 = .ok (.iload_n 2, 1) := by decide +kernel
theorem dX2_reachedNow_8 : decode cX2_reachedNow 8 = .ok (.iload_n 1, 1) := by decide +kernel
theorem dX2_reachedNow_9 : decode cX2_reachedNow 9 = .ok (.if_icmp .eq 16, 3) := by decide +kernel
theorem dX2_reachedNow_12 : decode cX2_reachedNow 12 = .ok (.iload_n 1, 1) := by decide +kernel
theorem dX2_reachedNow_13 : decode cX2_reachedNow 13 = .ok (.istore_n 2, 1) := by decide +kernel
theorem dX2_reachedNow_14 : decode cX2_reachedNow 14 = .ok (.iload_n 1, 1) := by decide +kernel
theorem dX2_reachedNow_15 : decode cX2_reachedNow 15 = .ok (.aload_n 0, 1) := by decide +kernel
theorem dX2_reachedNow_16 : decode cX2_reachedNow 16 = .ok (.iload_n 1, 1) := by decide +kernel
theorem dX2_reachedNow_17 : decode cX2_reachedNow 17 = .ok (.invokevirtual 149, 3) := by decide +kernel
theorem dX2_reachedNow_20 : decode cX2_reachedNow 20 = .ok (.ior, 1) := by decide +kernel
theorem dX2_reachedNow_21 : decode cX2_reachedNow 21 = .ok (.istore_n 1, 1) := by decide +kernel
theorem dX2_reachedNow_22 : decode cX2_reachedNow 22 = .ok (.goto (-15), 3) := by decide +kernel
theorem dX2_reachedNow_25 : decode cX2_reachedNow 25 = .ok (.iload_n 1, 1) := by decide +kernel
theorem dX2_reachedNow_26 : decode cX2_reachedNow 26 = .ok (.ireturn, 1) := by decide +kernel
set_option maxRecDepth 20000 in
theorem ggX2_reached_X2_reachedNow : GoodIn wsX2_reached wsX2_reachedNow := goodIn_r _ [5, 6, 7, 8, 4, 9, 10, 11, 12, 13, 14, 15, 16, 17, 18, 19, 20, 21, 22, 23, 24, 25, 26, 27, 28, 29, 30, 31, 32, 33, 34, 35, 36, 37, 38, 39, 40, 41, 42, 43, 44, 45, 46, 47, 48, 49, 50, 51, 52] (by decide +kernel) (by decide +kernel)
set_option maxRecDepth 20000 in
theorem gX2_reached_X2_reachedNow : GoodIn wsX2_reached (wsV RX2 152 RX2 yX2_reachedNow wsX2_reachedNow) := goodIn_app (goodIn_of _ (by decide +kernel)) ggX2_reached_X2_reachedNow
theorem dX2_reached_0 : decode cX2_reached 0 = .ok (.aload_n 0, 1) := by decide +kernel
theorem dX2_reached_1 : decode cX2_reached 1 = .ok (.invokevirtual 152, 3) := by decide +kernel
theorem dX2_reached_4 : decode cX2_reached 4 = .ok (.ireturn, 1) := by decide +kernel
set_option maxRecDepth 20000 in
theorem ggX2_far_X2_isObject : GoodIn wsX2_far wsX2_isObject := goodIn_r _ [6, 7, 8, 9, 5, 10, 43, 44, 45, 46, 47, 48, 49, 50, 51, 52, 53, 54, 55] (by decide +kernel) (by decide +kernel)
set_option maxRecDepth 20000 in
theorem gX2_far_X2_isObject : GoodIn wsX2_far (wsV RX2 58 RX2 yX2_isObject wsX2_isObject) := goodIn_app (goodIn_of _ (by decide +kernel)) ggX2_far_X2_isObject
set_option maxRecDepth 20000 in
theorem ggX2_far_X2_has : GoodIn wsX2_far wsX2_has := goodIn_r _ [13] (by decide +kernel) (by decide +kernel)
set_option maxRecDepth 20000 in
theorem gX2_far_X2_has : GoodIn wsX2_far (va_wsS RX2 54 yX2_has wsX2_has) := goodIn_app (goodIn_of _ (by decide +kernel)) ggX2_far_X2_has
set_option maxRecDepth 20000 in
theorem ggX2_far_X2_allRoots : GoodIn wsX2_far wsX2_allRoots := goodIn_r _ [17, 7, 1, 18, 19, 20, 5, 21, 22, 11, 12, 13, 43, 44, 45, 46, 47, 48, 49, 50, 51, 52, 53, 54, 55] (by decide +kernel) (by decide +kernel)
set_option maxRecDepth 20000 in
theorem gX2_far_X2_allRoots : GoodIn wsX2_far (wsV RX2 146 RX2 yX2_allRoots wsX2_allRoots) := goodIn_app (goodIn_of _ (by decide +kernel)) ggX2_far_X2_allRoots
set_option maxRecDepth 20000 in
theorem ggX2_far_X2_oneOn : GoodIn wsX2_far wsX2_oneOn := goodIn_r _ [26, 7, 27, 28, 1, 29, 11, 12, 5, 13, 30, 31, 32, 33, 34, 35, 36, 37, 38, 39, 40, 41, 42, 43, 44, 45, 46, 47, 48, 49, 50, 51, 52, 53, 54, 55] (by decide +kernel) (by decide +kernel)
set_option maxRecDepth 20000 in
theorem gX2_far_X2_oneOn : GoodIn wsX2_far (wsV RX2 149 RX2 yX2_oneOn wsX2_oneOn) := goodIn_app (goodIn_of _ (by decide +kernel)) ggX2_far_X2_oneOn
theorem dX2_far_0 : decode cX2_far 0 = .ok (.aload_n 0, 1) := by decide +kernel
theorem dX2_far_1 : decode cX2_far 1 = .ok (.iload_n 1, 1) := by decide +kernel
theorem dX2_far_2 : decode cX2_far 2 = .ok (.invokevirtual 58, 3) := by decide +kernel
theorem dX2_far_5 : decode cX2_far 5 = .ok (.ifCond .ne 5, 3) := by decide +kernel
theorem dX2_far_8 : decode cX2_far 8 = .ok (.iconst (-1), 1) := by decide +kernel
theorem dX2_far_9 : decode cX2_far 9 = .ok (.ireturn, 1) := by decide +kernel
theorem dX2_far_10 : decode cX2_far 10 = .ok (.aload_n 0, 1) := by decide +kernel
theorem dX2_far_11 : decode cX2_far 11 = .ok (.getfield 61, 3) := by decide +kernel
theorem dX2_far_14 : decode cX2_far 14 = .ok (.iload_n 1, 1) := by decide +kernel
theorem dX2_far_15 : decode cX2_far 15 = .ok (.invokestatic 54, 3) := by decide +kernel
theorem dX2_far_18 : decode cX2_far 18 = .ok (.ifCond .eq 6, 3) := by decide +kernel
theorem dX2_far_21 : decode cX2_far 21 = .ok (.bipush (-3), 2) := by decide +kernel
theorem dX2_far_23 : decode cX2_far 23 = .ok (.ireturn, 1) := by decide +kernel
theorem dX2_far_24 : decode cX2_far 24 = .ok (.aload_n 0, 1) := by decide +kernel
theorem dX2_far_25 : decode cX2_far 25 = .ok (.invokevirtual 146, 3) := by decide +kernel
theorem dX2_far_28 : decode cX2_far 28 = .ok (.istore_n 2, 1) := by decide +kernel
theorem dX2_far_29 : decode cX2_far 29 = .ok (.iconst (-1), 1) := by decide +kernel
theorem dX2_far_30 : decode cX2_far 30 = .ok (.istore_n 3, 1) := by decide +kernel
theorem dX2_far_31 : decode cX2_far 31 = .ok (.iconst 0, 1) := by decide +kernel
theorem dX2_far_32 : decode cX2_far 32 = .ok (.istore 4, 2) := by decide +kernel
theorem dX2_far_34 : decode cX2_far 34 = .ok (.iload_n 2, 1) := by decide +kernel
theorem dX2_far_35 : decode cX2_far 35 = .ok (.iload_n 1, 1) := by decide +kernel
theorem dX2_far_36 : decode cX2_far 36 = .ok (.invokestatic 54, 3) := by decide +kernel
theorem dX2_far_39 : decode cX2_far 39 = .ok (.ifCond .ne 27, 3) := by decide +kernel
theorem dX2_far_42 : decode cX2_far 42 = .ok (.iload_n 3, 1) := by decide +kernel
theorem dX2_far_43 : decode cX2_far 43 = .ok (.iload_n 2, 1) := by decide +kernel
theorem dX2_far_44 : decode cX2_far 44 = .ok (.if_icmp .ne 6, 3) := by decide +kernel
theorem dX2_far_47 : decode cX2_far 47 = .ok (.bipush (-9), 2) := by decide +kernel
theorem dX2_far_49 : decode cX2_far 49 = .ok (.ireturn, 1) := by decide +kernel
theorem dX2_far_50 : decode cX2_far 50 = .ok (.iload_n 2, 1) := by decide +kernel
theorem dX2_far_51 : decode cX2_far 51 = .ok (.istore_n 3, 1) := by decide +kernel
theorem dX2_far_52 : decode cX2_far 52 = .ok (.iload_n 2, 1) := by decide +kernel
theorem dX2_far_53 : decode cX2_far 53 = .ok (.aload_n 0, 1) := by decide +kernel
theorem dX2_far_54 : decode cX2_far 54 = .ok (.iload_n 2, 1) := by decide +kernel
theorem dX2_far_55 : decode cX2_far 55 = .ok (.invokevirtual 149, 3) := by decide +kernel
theorem dX2_far_58 : decode cX2_far 58 = .ok (.ior, 1) := by decide +kernel
theorem dX2_far_59 : decode cX2_far 59 = .ok (.istore_n 2, 1) := by decide +kernel
theorem dX2_far_60 : decode cX2_far 60 = .ok (.iinc 4 1, 3) := by decide +kernel
theorem dX2_far_63 : decode cX2_far 63 = .ok (.goto (-29), 3) := by decide +kernel
theorem dX2_far_66 : decode cX2_far 66 = .ok (.iload 4, 2) := by decide +kernel
theorem dX2_far_68 : decode cX2_far 68 = .ok (.ireturn, 1) := by decide +kernel
theorem dX2_links_0 : decode cX2_links 0 = .ok (.iconst 0, 1) := by decide +kernel
theorem dX2_links_1 : decode cX2_links 1 = .ok (.istore_n 2, 1) := by decide +kernel
theorem dX2_links_2 : decode cX2_links 2 = .ok (.iconst 0, 1) := by decide +kernel
theorem dX2_links_3 : decode cX2_links 3 = .ok (.istore_n 3, 1) := by decide +kernel
theorem dX2_links_4 : decode cX2_links 4 = .ok (.iload_n 3, 1) := by decide +kernel
theorem dX2_links_5 : decode cX2_links 5 = .ok (.bipush 100, 2) := by decide +kernel
theorem dX2_links_7 : decode cX2_links 7 = .ok (.if_icmp .ge 46, 3) := by decide +kernel
theorem dX2_links_10 : decode cX2_links 10 = .ok (.iload_n 2, 1) := by decide +kernel
theorem dX2_links_11 : decode cX2_links 11 = .ok (.aload_n 0, 1) := by decide +kernel
theorem dX2_links_12 : decode cX2_links 12 = .ok (.getfield 23, 3) := by decide +kernel
theorem dX2_links_15 : decode cX2_links 15 = .ok (.iload_n 3, 1) := by decide +kernel
theorem dX2_links_16 : decode cX2_links 16 = .ok (.iaload, 1) := by decide +kernel
theorem dX2_links_17 : decode cX2_links 17 = .ok (.bipush (-9), 2) := by decide +kernel
theorem dX2_links_19 : decode cX2_links 19 = .ok (.if_icmp .eq 25, 3) := by decide +kernel
theorem dX2_links_22 : decode cX2_links 22 = .ok (.aload_n 0, 1) := by decide +kernel
theorem dX2_links_23 : decode cX2_links 23 = .ok (.getfield 23, 3) := by decide +kernel
theorem dX2_links_26 : decode cX2_links 26 = .ok (.iload_n 3, 1) := by decide +kernel
theorem dX2_links_27 : decode cX2_links 27 = .ok (.iaload, 1) := by decide +kernel
theorem dX2_links_28 : decode cX2_links 28 = .ok (.ifCond .ne 7, 3) := by decide +kernel
theorem dX2_links_31 : decode cX2_links 31 = .ok (.iconst 1, 1) := by decide +kernel
theorem dX2_links_32 : decode cX2_links 32 = .ok (.goto 4, 3) := by decide +kernel
theorem dX2_links_35 : decode cX2_links 35 = .ok (.iconst 0, 1) := by decide +kernel
theorem dX2_links_36 : decode cX2_links 36 = .ok (.iload_n 1, 1) := by decide +kernel
theorem dX2_links_37 : decode cX2_links 37 = .ok (.if_icmp .ne 7, 3) := by decide +kernel
theorem dX2_links_40 : decode cX2_links 40 = .ok (.iconst 1, 1) := by decide +kernel
theorem dX2_links_41 : decode cX2_links 41 = .ok (.goto 4, 3) := by decide +kernel
theorem dX2_links_44 : decode cX2_links 44 = .ok (.iconst 0, 1) := by decide +kernel
theorem dX2_links_45 : decode cX2_links 45 = .ok (.iadd, 1) := by decide +kernel
theorem dX2_links_46 : decode cX2_links 46 = .ok (.istore_n 2, 1) := by decide +kernel
theorem dX2_links_47 : decode cX2_links 47 = .ok (.iinc 3 1, 3) := by decide +kernel
theorem dX2_links_50 : decode cX2_links 50 = .ok (.goto (-46), 3) := by decide +kernel
theorem dX2_links_53 : decode cX2_links 53 = .ok (.iload_n 2, 1) := by decide +kernel
theorem dX2_links_54 : decode cX2_links 54 = .ok (.ireturn, 1) := by decide +kernel
set_option maxRecDepth 20000 in
theorem ggX2_isTrue_X2_has : GoodIn wsX2_isTrue wsX2_has := goodIn_r _ [7] (by decide +kernel) (by decide +kernel)
set_option maxRecDepth 20000 in
theorem gX2_isTrue_X2_has : GoodIn wsX2_isTrue (va_wsS RX2 54 yX2_has wsX2_has) := goodIn_app (goodIn_of _ (by decide +kernel)) ggX2_isTrue_X2_has
set_option maxRecDepth 20000 in
theorem ggX2_isTrue_X2_heldOf : GoodIn wsX2_isTrue wsX2_heldOf := goodIn_r _ [11, 1, 12, 13, 14, 15, 16, 17, 18, 6, 19, 20, 21, 22, 23, 24, 25, 26, 27, 28, 29, 30, 4, 5, 7, 31, 32, 33, 34, 35, 36, 37, 38, 39, 40, 41, 42, 43] (by decide +kernel) (by decide +kernel)
set_option maxRecDepth 20000 in
theorem gX2_isTrue_X2_heldOf : GoodIn wsX2_isTrue (wsV RX2 139 RX2 yX2_heldOf wsX2_heldOf) := goodIn_app (goodIn_of _ (by decide +kernel)) ggX2_isTrue_X2_heldOf
theorem dX2_isTrue_0 : decode cX2_isTrue 0 = .ok (.iconst 1, 1) := by decide +kernel
theorem dX2_isTrue_1 : decode cX2_isTrue 1 = .ok (.istore_n 1, 1) := by decide +kernel
theorem dX2_isTrue_2 : decode cX2_isTrue 2 = .ok (.iconst 0, 1) := by decide +kernel
theorem dX2_isTrue_3 : decode cX2_isTrue 3 = .ok (.istore_n 2, 1) := by decide +kernel
theorem dX2_isTrue_4 : decode cX2_isTrue 4 = .ok (.iload_n 2, 1) := by decide +kernel
theorem dX2_isTrue_5 : decode cX2_isTrue 5 = .ok (.aload_n 0, 1) := by decide +kernel
theorem dX2_isTrue_6 : decode cX2_isTrue 6 = .ok (.getfield 39, 3) := by decide +kernel
theorem dX2_isTrue_9 : decode cX2_isTrue 9 = .ok (.if_icmp .ge 45, 3) := by decide +kernel
theorem dX2_isTrue_12 : decode cX2_isTrue 12 = .ok (.iload_n 1, 1) := by decide +kernel
theorem dX2_isTrue_13 : decode cX2_isTrue 13 = .ok (.ifCond .eq 33, 3) := by decide +kernel
theorem dX2_isTrue_16 : decode cX2_isTrue 16 = .ok (.aload_n 0, 1) := by decide +kernel
theorem dX2_isTrue_17 : decode cX2_isTrue 17 = .ok (.getfield 61, 3) := by decide +kernel
theorem dX2_isTrue_20 : decode cX2_isTrue 20 = .ok (.iload_n 2, 1) := by decide +kernel
theorem dX2_isTrue_21 : decode cX2_isTrue 21 = .ok (.invokestatic 54, 3) := by decide +kernel
theorem dX2_isTrue_24 : decode cX2_isTrue 24 = .ok (.ifCond .ne 18, 3) := by decide +kernel
theorem dX2_isTrue_27 : decode cX2_isTrue 27 = .ok (.aload_n 0, 1) := by decide +kernel
theorem dX2_isTrue_28 : decode cX2_isTrue 28 = .ok (.getfield 17, 3) := by decide +kernel
theorem dX2_isTrue_31 : decode cX2_isTrue 31 = .ok (.iload_n 2, 1) := by decide +kernel
theorem dX2_isTrue_32 : decode cX2_isTrue 32 = .ok (.iaload, 1) := by decide +kernel
theorem dX2_isTrue_33 : decode cX2_isTrue 33 = .ok (.aload_n 0, 1) := by decide +kernel
theorem dX2_isTrue_34 : decode cX2_isTrue 34 = .ok (.iload_n 2, 1) := by decide +kernel
theorem dX2_isTrue_35 : decode cX2_isTrue 35 = .ok (.iconst 1, 1) := by decide +kernel
theorem dX2_isTrue_36 : decode cX2_isTrue 36 = .ok (.invokevirtual 139, 3) := by decide +kernel
theorem dX2_isTrue_39 : decode cX2_isTrue 39 = .ok (.if_icmp .ne 7, 3) := by decide +kernel
theorem dX2_isTrue_42 : decode cX2_isTrue 42 = .ok (.iconst 1, 1) := by decide +kernel
theorem dX2_isTrue_43 : decode cX2_isTrue 43 = .ok (.goto 4, 3) := by decide +kernel
theorem dX2_isTrue_46 : decode cX2_isTrue 46 = .ok (.iconst 0, 1) := by decide +kernel
theorem dX2_isTrue_47 : decode cX2_isTrue 47 = .ok (.istore_n 1, 1) := by decide +kernel
theorem dX2_isTrue_48 : decode cX2_isTrue 48 = .ok (.iinc 2 1, 3) := by decide +kernel
theorem dX2_isTrue_51 : decode cX2_isTrue 51 = .ok (.goto (-47), 3) := by decide +kernel
theorem dX2_isTrue_54 : decode cX2_isTrue 54 = .ok (.iload_n 1, 1) := by decide +kernel
theorem dX2_isTrue_55 : decode cX2_isTrue 55 = .ok (.ireturn, 1) := by decide +kernel
set_option maxRecDepth 20000 in
theorem ggX2_many_X2_sizeOf : GoodIn wsX2_many wsX2_sizeOf := goodIn_r _ [9] (by decide +kernel) (by decide +kernel)
set_option maxRecDepth 20000 in
theorem gX2_many_X2_sizeOf : GoodIn wsX2_many (va_wsS RX2 120 yX2_sizeOf wsX2_sizeOf) := goodIn_app (goodIn_of _ (by decide +kernel)) ggX2_many_X2_sizeOf
set_option maxRecDepth 20000 in
theorem ggX2_many_X2_links : GoodIn wsX2_many wsX2_links := goodIn_r _ [13, 14, 64, 65, 66, 67, 68, 69, 70, 71, 72, 73, 74, 75, 76] (by decide +kernel) (by decide +kernel)
set_option maxRecDepth 20000 in
theorem gX2_many_X2_links : GoodIn wsX2_many (wsV RX2 155 RX2 yX2_links wsX2_links) := goodIn_app (goodIn_of _ (by decide +kernel)) ggX2_many_X2_links
set_option maxRecDepth 20000 in
theorem ggX2_many_X2_reachedNow : GoodIn wsX2_many wsX2_reachedNow := goodIn_r _ [18, 19, 20, 21, 8, 22, 1, 2, 23, 24, 25, 26, 27, 28, 29, 30, 31, 32, 33, 34, 3, 35, 36, 37, 38, 39, 40, 41, 42, 43, 44, 45, 46, 47, 48, 14, 64, 65, 66, 67, 68, 69, 70, 71, 72, 73, 74, 75, 76] (by decide +kernel) (by decide +kernel)
set_option maxRecDepth 20000 in
theorem gX2_many_X2_reachedNow : GoodIn wsX2_many (wsV RX2 152 RX2 yX2_reachedNow wsX2_reachedNow) := goodIn_app (goodIn_of _ (by decide +kernel)) ggX2_many_X2_reachedNow
set_option maxRecDepth 20000 in
theorem ggX2_many_X2_isTrue : GoodIn wsX2_many wsX2_isTrue := goodIn_r _ [52, 1, 2, 53, 28, 29, 8, 30, 54, 55, 56, 57, 3, 36, 4, 58, 41, 42, 43, 44, 45, 46, 47, 48, 14, 59, 60, 61, 62, 35, 63, 64, 65, 66, 67, 68, 69, 70, 71, 72, 73, 74, 75, 76] (by decide +kernel) (by decide +kernel)
set_option maxRecDepth 20000 in
theorem gX2_many_X2_isTrue : GoodIn wsX2_many (wsV RX2 159 RX2 yX2_isTrue wsX2_isTrue) := goodIn_app (goodIn_of _ (by decide +kernel)) ggX2_many_X2_isTrue
theorem dX2_many_0 : decode cX2_many 0 = .ok (.iload_n 1, 1) := by decide +kernel
theorem dX2_many_1 : decode cX2_many 1 = .ok (.tableswitch 123 0 7 #[47, 60, 65, 71, 77, 87, 105, 110], 47) := by decide +kernel
theorem dX2_many_48 : decode cX2_many 48 = .ok (.aload_n 0, 1) := by decide +kernel
theorem dX2_many_49 : decode cX2_many 49 = .ok (.getfield 39, 3) := by decide +kernel
theorem dX2_many_52 : decode cX2_many 52 = .ok (.aload_n 0, 1) := by decide +kernel
theorem dX2_many_53 : decode cX2_many 53 = .ok (.getfield 61, 3) := by decide +kernel
theorem dX2_many_56 : decode cX2_many 56 = .ok (.invokestatic 120, 3) := by decide +kernel
theorem dX2_many_59 : decode cX2_many 59 = .ok (.isub, 1) := by decide +kernel
theorem dX2_many_60 : decode cX2_many 60 = .ok (.ireturn, 1) := by decide +kernel
theorem dX2_many_61 : decode cX2_many 61 = .ok (.aload_n 0, 1) := by decide +kernel
theorem dX2_many_62 : decode cX2_many 62 = .ok (.getfield 74, 3) := by decide +kernel
theorem dX2_many_65 : decode cX2_many 65 = .ok (.ireturn, 1) := by decide +kernel
theorem dX2_many_66 : decode cX2_many 66 = .ok (.aload_n 0, 1) := by decide +kernel
theorem dX2_many_67 : decode cX2_many 67 = .ok (.iconst 1, 1) := by decide +kernel
theorem dX2_many_68 : decode cX2_many 68 = .ok (.invokevirtual 155, 3) := by decide +kernel
theorem dX2_many_71 : decode cX2_many 71 = .ok (.ireturn, 1) := by decide +kernel
theorem dX2_many_72 : decode cX2_many 72 = .ok (.aload_n 0, 1) := by decide +kernel
theorem dX2_many_73 : decode cX2_many 73 = .ok (.iconst 0, 1) := by decide +kernel
theorem dX2_many_74 : decode cX2_many 74 = .ok (.invokevirtual 155, 3) := by decide +kernel
theorem dX2_many_77 : decode cX2_many 77 = .ok (.ireturn, 1) := by decide +kernel
theorem dX2_many_78 : decode cX2_many 78 = .ok (.iconst 4, 1) := by decide +kernel
theorem dX2_many_79 : decode cX2_many 79 = .ok (.aload_n 0, 1) := by decide +kernel
theorem dX2_many_80 : decode cX2_many 80 = .ok (.getfield 51, 3) := by decide +kernel
theorem dX2_many_83 : decode cX2_many 83 = .ok (.invokestatic 120, 3) := by decide +kernel
theorem dX2_many_86 : decode cX2_many 86 = .ok (.isub, 1) := by decide +kernel
theorem dX2_many_87 : decode cX2_many 87 = .ok (.ireturn, 1) := by decide +kernel
theorem dX2_many_88 : decode cX2_many 88 = .ok (.aload_n 0, 1) := by decide +kernel
theorem dX2_many_89 : decode cX2_many 89 = .ok (.getfield 39, 3) := by decide +kernel
theorem dX2_many_92 : decode cX2_many 92 = .ok (.aload_n 0, 1) := by decide +kernel
theorem dX2_many_93 : decode cX2_many 93 = .ok (.getfield 61, 3) := by decide +kernel
theorem dX2_many_96 : decode cX2_many 96 = .ok (.aload_n 0, 1) := by decide +kernel
theorem dX2_many_97 : decode cX2_many 97 = .ok (.invokevirtual 152, 3) := by decide +kernel
theorem dX2_many_100 : decode cX2_many 100 = .ok (.ior, 1) := by decide +kernel
theorem dX2_many_101 : decode cX2_many 101 = .ok (.invokestatic 120, 3) := by decide +kernel
theorem dX2_many_104 : decode cX2_many 104 = .ok (.isub, 1) := by decide +kernel
theorem dX2_many_105 : decode cX2_many 105 = .ok (.ireturn, 1) := by decide +kernel
theorem dX2_many_106 : decode cX2_many 106 = .ok (.aload_n 0, 1) := by decide +kernel
theorem dX2_many_107 : decode cX2_many 107 = .ok (.getfield 87, 3) := by decide +kernel
theorem dX2_many_110 : decode cX2_many 110 = .ok (.ireturn, 1) := by decide +kernel
theorem dX2_many_111 : decode cX2_many 111 = .ok (.aload_n 0, 1) := by decide +kernel
theorem dX2_many_112 : decode cX2_many 112 = .ok (.invokevirtual 159, 3) := by decide +kernel
theorem dX2_many_115 : decode cX2_many 115 = .ok (.ifCond .eq 7, 3) := by decide +kernel
theorem dX2_many_118 : decode cX2_many 118 = .ok (.iconst 1, 1) := by decide +kernel
theorem dX2_many_119 : decode cX2_many 119 = .ok (.goto 4, 3) := by decide +kernel
theorem dX2_many_122 : decode cX2_many 122 = .ok (.iconst 0, 1) := by decide +kernel
theorem dX2_many_123 : decode cX2_many 123 = .ok (.ireturn, 1) := by decide +kernel
theorem dX2_many_124 : decode cX2_many 124 = .ok (.bipush (-2), 2) := by decide +kernel
theorem dX2_many_126 : decode cX2_many 126 = .ok (.ireturn, 1) := by decide +kernel
theorem dJ6_bitCount_0f7a4_0 : decode cJ6_bitCount_0f7a4 0 = .ok (.iload_n 0, 1) := by decide +kernel
theorem dJ6_bitCount_0f7a4_1 : decode cJ6_bitCount_0f7a4 1 = .ok (.iload_n 0, 1) := by decide +kernel
theorem dJ6_bitCount_0f7a4_2 : decode cJ6_bitCount_0f7a4 2 = .ok (.iconst 1, 1) := by decide +kernel
theorem dJ6_bitCount_0f7a4_3 : decode cJ6_bitCount_0f7a4 3 = .ok (.iushr, 1) := by decide +kernel
theorem dJ6_bitCount_0f7a4_4 : decode cJ6_bitCount_0f7a4 4 = .ok (.ldc_w 265, 3) := by decide +kernel
theorem dJ6_bitCount_0f7a4_7 : decode cJ6_bitCount_0f7a4 7 = .ok (.iand, 1) := by decide +kernel
theorem dJ6_bitCount_0f7a4_8 : decode cJ6_bitCount_0f7a4 8 = .ok (.isub, 1) := by decide +kernel
theorem dJ6_bitCount_0f7a4_9 : decode cJ6_bitCount_0f7a4 9 = .ok (.istore_n 0, 1) := by decide +kernel
theorem dJ6_bitCount_0f7a4_10 : decode cJ6_bitCount_0f7a4 10 = .ok (.iload_n 0, 1) := by decide +kernel
theorem dJ6_bitCount_0f7a4_11 : decode cJ6_bitCount_0f7a4 11 = .ok (.ldc_w 266, 3) := by decide +kernel
theorem dJ6_bitCount_0f7a4_14 : decode cJ6_bitCount_0f7a4 14 = .ok (.iand, 1) := by decide +kernel
theorem dJ6_bitCount_0f7a4_15 : decode cJ6_bitCount_0f7a4 15 = .ok (.iload_n 0, 1) := by decide +kernel
theorem dJ6_bitCount_0f7a4_16 : decode cJ6_bitCount_0f7a4 16 = .ok (.iconst 2, 1) := by decide +kernel
theorem dJ6_bitCount_0f7a4_17 : decode cJ6_bitCount_0f7a4 17 = .ok (.iushr, 1) := by decide +kernel
theorem dJ6_bitCount_0f7a4_18 : decode cJ6_bitCount_0f7a4 18 = .ok (.ldc_w 266, 3) := by decide +kernel
theorem dJ6_bitCount_0f7a4_21 : decode cJ6_bitCount_0f7a4 21 = .ok (.iand, 1) := by decide +kernel
theorem dJ6_bitCount_0f7a4_22 : decode cJ6_bitCount_0f7a4 22 = .ok (.iadd, 1) := by decide +kernel
theorem dJ6_bitCount_0f7a4_23 : decode cJ6_bitCount_0f7a4 23 = .ok (.istore_n 0, 1) := by decide +kernel
theorem dJ6_bitCount_0f7a4_24 : decode cJ6_bitCount_0f7a4 24 = .ok (.iload_n 0, 1) := by decide +kernel
theorem dJ6_bitCount_0f7a4_25 : decode cJ6_bitCount_0f7a4 25 = .ok (.iload_n 0, 1) := by decide +kernel
theorem dJ6_bitCount_0f7a4_26 : decode cJ6_bitCount_0f7a4 26 = .ok (.iconst 4, 1) := by decide +kernel
theorem dJ6_bitCount_0f7a4_27 : decode cJ6_bitCount_0f7a4 27 = .ok (.iushr, 1) := by decide +kernel
theorem dJ6_bitCount_0f7a4_28 : decode cJ6_bitCount_0f7a4 28 = .ok (.iadd, 1) := by decide +kernel
theorem dJ6_bitCount_0f7a4_29 : decode cJ6_bitCount_0f7a4 29 = .ok (.ldc_w 267, 3) := by decide +kernel
theorem dJ6_bitCount_0f7a4_32 : decode cJ6_bitCount_0f7a4 32 = .ok (.iand, 1) := by decide +kernel
theorem dJ6_bitCount_0f7a4_33 : decode cJ6_bitCount_0f7a4 33 = .ok (.istore_n 0, 1) := by decide +kernel
theorem dJ6_bitCount_0f7a4_34 : decode cJ6_bitCount_0f7a4 34 = .ok (.iload_n 0, 1) := by decide +kernel
theorem dJ6_bitCount_0f7a4_35 : decode cJ6_bitCount_0f7a4 35 = .ok (.iload_n 0, 1) := by decide +kernel
theorem dJ6_bitCount_0f7a4_36 : decode cJ6_bitCount_0f7a4 36 = .ok (.bipush 8, 2) := by decide +kernel
theorem dJ6_bitCount_0f7a4_38 : decode cJ6_bitCount_0f7a4 38 = .ok (.iushr, 1) := by decide +kernel
theorem dJ6_bitCount_0f7a4_39 : decode cJ6_bitCount_0f7a4 39 = .ok (.iadd, 1) := by decide +kernel
theorem dJ6_bitCount_0f7a4_40 : decode cJ6_bitCount_0f7a4 40 = .ok (.istore_n 0, 1) := by decide +kernel
theorem dJ6_bitCount_0f7a4_41 : decode cJ6_bitCount_0f7a4 41 = .ok (.iload_n 0, 1) := by decide +kernel
theorem dJ6_bitCount_0f7a4_42 : decode cJ6_bitCount_0f7a4 42 = .ok (.iload_n 0, 1) := by decide +kernel
theorem dJ6_bitCount_0f7a4_43 : decode cJ6_bitCount_0f7a4 43 = .ok (.bipush 16, 2) := by decide +kernel
theorem dJ6_bitCount_0f7a4_45 : decode cJ6_bitCount_0f7a4 45 = .ok (.iushr, 1) := by decide +kernel
theorem dJ6_bitCount_0f7a4_46 : decode cJ6_bitCount_0f7a4 46 = .ok (.iadd, 1) := by decide +kernel
theorem dJ6_bitCount_0f7a4_47 : decode cJ6_bitCount_0f7a4 47 = .ok (.istore_n 0, 1) := by decide +kernel
theorem dJ6_bitCount_0f7a4_48 : decode cJ6_bitCount_0f7a4 48 = .ok (.iload_n 0, 1) := by decide +kernel
theorem dJ6_bitCount_0f7a4_49 : decode cJ6_bitCount_0f7a4 49 = .ok (.bipush 63, 2) := by decide +kernel
theorem dJ6_bitCount_0f7a4_51 : decode cJ6_bitCount_0f7a4 51 = .ok (.iand, 1) := by decide +kernel
theorem dJ6_bitCount_0f7a4_52 : decode cJ6_bitCount_0f7a4 52 = .ok (.ireturn, 1) := by decide +kernel
theorem dJ9_min_7cf53_0 : decode cJ9_min_7cf53 0 = .ok (.iload_n 0, 1) := by decide +kernel
theorem dJ9_min_7cf53_1 : decode cJ9_min_7cf53 1 = .ok (.iload_n 1, 1) := by decide +kernel
theorem dJ9_min_7cf53_2 : decode cJ9_min_7cf53 2 = .ok (.if_icmp .gt 7, 3) := by decide +kernel
theorem dJ9_min_7cf53_5 : decode cJ9_min_7cf53 5 = .ok (.iload_n 0, 1) := by decide +kernel
theorem dJ9_min_7cf53_6 : decode cJ9_min_7cf53 6 = .ok (.goto 4, 3) := by decide +kernel
theorem dJ9_min_7cf53_9 : decode cJ9_min_7cf53 9 = .ok (.iload_n 1, 1) := by decide +kernel
theorem dJ9_min_7cf53_10 : decode cJ9_min_7cf53 10 = .ok (.ireturn, 1) := by decide +kernel
theorem dJ7_fill_53178_0 : decode cJ7_fill_53178 0 = .ok (.iconst 0, 1) := by decide +kernel
theorem dJ7_fill_53178_1 : decode cJ7_fill_53178 1 = .ok (.istore_n 2, 1) := by decide +kernel
theorem dJ7_fill_53178_2 : decode cJ7_fill_53178 2 = .ok (.aload_n 0, 1) := by decide +kernel
theorem dJ7_fill_53178_3 : decode cJ7_fill_53178 3 = .ok (.arraylength, 1) := by decide +kernel
theorem dJ7_fill_53178_4 : decode cJ7_fill_53178 4 = .ok (.istore_n 3, 1) := by decide +kernel
theorem dJ7_fill_53178_5 : decode cJ7_fill_53178 5 = .ok (.iload_n 2, 1) := by decide +kernel
theorem dJ7_fill_53178_6 : decode cJ7_fill_53178 6 = .ok (.iload_n 3, 1) := by decide +kernel
theorem dJ7_fill_53178_7 : decode cJ7_fill_53178 7 = .ok (.if_icmp .ge 13, 3) := by decide +kernel
theorem dJ7_fill_53178_10 : decode cJ7_fill_53178 10 = .ok (.aload_n 0, 1) := by decide +kernel
theorem dJ7_fill_53178_11 : decode cJ7_fill_53178 11 = .ok (.iload_n 2, 1) := by decide +kernel
theorem dJ7_fill_53178_12 : decode cJ7_fill_53178 12 = .ok (.iload_n 1, 1) := by decide +kernel
theorem dJ7_fill_53178_13 : decode cJ7_fill_53178 13 = .ok (.iastore, 1) := by decide +kernel
theorem dJ7_fill_53178_14 : decode cJ7_fill_53178 14 = .ok (.iinc 2 1, 3) := by decide +kernel
theorem dJ7_fill_53178_17 : decode cJ7_fill_53178 17 = .ok (.goto (-12), 3) := by decide +kernel
theorem dJ7_fill_53178_20 : decode cJ7_fill_53178 20 = .ok (.return_, 1) := by decide +kernel
