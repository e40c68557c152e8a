theorem dX0_init_0 : decode cX0_init 0 = .ok (.aload_n 0, 1) := by decide +kernel
theorem dX0_init_1 : decode cX0_init 1 = .ok (.invokespecial 3, 3) := by decide +kernel
theorem dX0_init_4 : decode cX0_init 4 = .ok (.aload_n 0, 1) := by decide +kernel
theorem dX0_init_5 : decode cX0_init 5 = .ok (.bipush 16, 2) := by decide +kernel
theorem dX0_init_7 : decode cX0_init 7 = .ok (.newarray .long, 2) := by decide +kernel
theorem dX0_init_9 : decode cX0_init 9 = .ok (.putfield 9, 3) := by decide +kernel
theorem dX0_init_12 : decode cX0_init 12 = .ok (.return_, 1) := by decide +kernel
theorem dX0_remember_0 : decode cX0_remember 0 = .ok (.aload_n 0, 1) := by decide +kernel
theorem dX0_remember_1 : decode cX0_remember 1 = .ok (.getfield 15, 3) := by decide +kernel
theorem dX0_remember_4 : decode cX0_remember 4 = .ok (.bipush 16, 2) := by decide +kernel
theorem dX0_remember_6 : decode cX0_remember 6 = .ok (.if_icmp .lt 24, 3) := by decide +kernel
theorem dX0_remember_9 : decode cX0_remember 9 = .ok (.aload_n 0, 1) := by decide +kernel
theorem dX0_remember_10 : decode cX0_remember 10 = .ok (.getfield 9, 3) := by decide +kernel
theorem dX0_remember_13 : decode cX0_remember 13 = .ok (.iconst 1, 1) := by decide +kernel
theorem dX0_remember_14 : decode cX0_remember 14 = .ok (.aload_n 0, 1) := by decide +kernel
theorem dX0_remember_15 : decode cX0_remember 15 = .ok (.getfield 9, 3) := by decide +kernel
theorem dX0_remember_18 : decode cX0_remember 18 = .ok (.iconst 0, 1) := by decide +kernel
theorem dX0_remember_19 : decode cX0_remember 19 = .ok (.bipush 15, 2) := by decide +kernel
theorem dX0_remember_21 : decode cX0_remember 21 = .ok (.invokestatic 19, 3) := by decide +kernel
theorem dX0_remember_24 : decode cX0_remember 24 = .ok (.aload_n 0, 1) := by decide +kernel
theorem dX0_remember_25 : decode cX0_remember 25 = .ok (.bipush 15, 2) := by decide +kernel
theorem dX0_remember_27 : decode cX0_remember 27 = .ok (.putfield 15, 3) := by decide +kernel
theorem dX0_remember_30 : decode cX0_remember 30 = .ok (.aload_n 0, 1) := by decide +kernel
theorem dX0_remember_31 : decode cX0_remember 31 = .ok (.getfield 9, 3) := by decide +kernel
theorem dX0_remember_34 : decode cX0_remember 34 = .ok (.aload_n 0, 1) := by decide +kernel
theorem dX0_remember_35 : decode cX0_remember 35 = .ok (.getfield 15, 3) := by decide +kernel
theorem dX0_remember_38 : decode cX0_remember 38 = .ok (.lload_n 1, 1) := by decide +kernel
theorem dX0_remember_39 : decode cX0_remember 39 = .ok (.lastore, 1) := by decide +kernel
theorem dX0_remember_40 : decode cX0_remember 40 = .ok (.aload_n 0, 1) := by decide +kernel
theorem dX0_remember_41 : decode cX0_remember 41 = .ok (.dup, 1) := by decide +kernel
theorem dX0_remember_42 : decode cX0_remember 42 = .ok (.getfield 15, 3) := by decide +kernel
theorem dX0_remember_45 : decode cX0_remember 45 = .ok (.iconst 1, 1) := by decide +kernel
theorem dX0_remember_46 : decode cX0_remember 46 = .ok (.iadd, 1) := by decide +kernel
theorem dX0_remember_47 : decode cX0_remember 47 = .ok (.putfield 15, 3) := by decide +kernel
theorem dX0_remember_50 : decode cX0_remember 50 = .ok (.return_, 1) := by decide +kernel
theorem dX0_takeLast_0 : decode cX0_takeLast 0 = .ok (.aload_n 0, 1) := by decide +kernel
theorem dX0_takeLast_1 : decode cX0_takeLast 1 = .ok (.getfield 15, 3) := by decide +kernel
theorem dX0_takeLast_4 : decode cX0_takeLast 4 = .ok (.ifCond .le 13, 3) := by decide +kernel
theorem dX0_takeLast_7 : decode cX0_takeLast 7 = .ok (.aload_n 0, 1) := by decide +kernel
theorem dX0_takeLast_8 : decode cX0_takeLast 8 = .ok (.dup, 1) := by decide +kernel
theorem dX0_takeLast_9 : decode cX0_takeLast 9 = .ok (.getfield 15, 3) := by decide +kernel
theorem dX0_takeLast_12 : decode cX0_takeLast 12 = .ok (.iconst 1, 1) := by decide +kernel
theorem dX0_takeLast_13 : decode cX0_takeLast 13 = .ok (.isub, 1) := by decide +kernel
theorem dX0_takeLast_14 : decode cX0_takeLast 14 = .ok (.putfield 15, 3) := by decide +kernel
theorem dX0_takeLast_17 : decode cX0_takeLast 17 = .ok (.aload_n 0, 1) := by decide +kernel
theorem dX0_takeLast_18 : decode cX0_takeLast 18 = .ok (.getfield 9, 3) := by decide +kernel
theorem dX0_takeLast_21 : decode cX0_takeLast 21 = .ok (.aload_n 0, 1) := by decide +kernel
theorem dX0_takeLast_22 : decode cX0_takeLast 22 = .ok (.getfield 15, 3) := by decide +kernel
theorem dX0_takeLast_25 : decode cX0_takeLast 25 = .ok (.laload, 1) := by decide +kernel
theorem dX0_takeLast_26 : decode cX0_takeLast 26 = .ok (.lreturn, 1) := by decide +kernel
theorem dX1_init_0 : decode cX1_init 0 = .ok (.aload_n 0, 1) := by decide +kernel
theorem dX1_init_1 : decode cX1_init 1 = .ok (.invokespecial 3, 3) := by decide +kernel
theorem dX1_init_4 : decode cX1_init 4 = .ok (.aload_n 0, 1) := by decide +kernel
theorem dX1_init_5 : decode cX1_init 5 = .ok (.iconst 4, 1) := by decide +kernel
theorem dX1_init_6 : decode cX1_init 6 = .ok (.newarray .int, 2) := by decide +kernel
theorem dX1_init_8 : decode cX1_init 8 = .ok (.putfield 9, 3) := by decide +kernel
theorem dX1_init_11 : decode cX1_init 11 = .ok (.aload_n 0, 1) := by decide +kernel
theorem dX1_init_12 : decode cX1_init 12 = .ok (.iconst 4, 1) := by decide +kernel
theorem dX1_init_13 : decode cX1_init 13 = .ok (.newarray .int, 2) := by decide +kernel
theorem dX1_init_15 : decode cX1_init 15 = .ok (.putfield 15, 3) := by decide +kernel
theorem dX1_init_18 : decode cX1_init 18 = .ok (.aload_n 0, 1) := by decide +kernel
theorem dX1_init_19 : decode cX1_init 19 = .ok (.iconst 4, 1) := by decide +kernel
theorem dX1_init_20 : decode cX1_init 20 = .ok (.newarray .int, 2) := by decide +kernel
theorem dX1_init_22 : decode cX1_init 22 = .ok (.putfield 18, 3) := by decide +kernel
theorem dX1_init_25 : decode cX1_init 25 = .ok (.aload_n 0, 1) := by decide +kernel
theorem dX1_init_26 : decode cX1_init 26 = .ok (.iconst 4, 1) := by decide +kernel
theorem dX1_init_27 : decode cX1_init 27 = .ok (.newarray .int, 2) := by decide +kernel
theorem dX1_init_29 : decode cX1_init 29 = .ok (.putfield 21, 3) := by decide +kernel
theorem dX1_init_32 : decode cX1_init 32 = .ok (.aload_n 0, 1) := by decide +kernel
theorem dX1_init_33 : decode cX1_init 33 = .ok (.iconst 4, 1) := by decide +kernel
theorem dX1_init_34 : decode cX1_init 34 = .ok (.newarray .int, 2) := by decide +kernel
theorem dX1_init_36 : decode cX1_init 36 = .ok (.putfield 24, 3) := by decide +kernel
theorem dX1_init_39 : decode cX1_init 39 = .ok (.aload_n 0, 1) := by decide +kernel
theorem dX1_init_40 : decode cX1_init 40 = .ok (.iconst 4, 1) := by decide +kernel
theorem dX1_init_41 : decode cX1_init 41 = .ok (.newarray .int, 2) := by decide +kernel
theorem dX1_init_43 : decode cX1_init 43 = .ok (.putfield 27, 3) := by decide +kernel
theorem dX1_init_46 : decode cX1_init 46 = .ok (.return_, 1) := by decide +kernel
theorem dX1_has_0 : decode cX1_has 0 = .ok (.iload_n 1, 1) := by decide +kernel
theorem dX1_has_1 : decode cX1_has 1 = .ok (.ifCond .lt 15, 3) := by decide +kernel
theorem dX1_has_4 : decode cX1_has 4 = .ok (.iload_n 1, 1) := by decide +kernel
theorem dX1_has_5 : decode cX1_has 5 = .ok (.aload_n 0, 1) := by decide +kernel
theorem dX1_has_6 : decode cX1_has 6 = .ok (.getfield 30, 3) := by decide +kernel
theorem dX1_has_9 : decode cX1_has 9 = .ok (.if_icmp .ge 7, 3) := by decide +kernel
theorem dX1_has_12 : decode cX1_has 12 = .ok (.iconst 1, 1) := by decide +kernel
theorem dX1_has_13 : decode cX1_has 13 = .ok (.goto 4, 3) := by decide +kernel
theorem dX1_has_16 : decode cX1_has 16 = .ok (.iconst 0, 1) := by decide +kernel
theorem dX1_has_17 : decode cX1_has 17 = .ok (.ireturn, 1) := by decide +kernel
theorem dX1_everybody_0 : decode cX1_everybody 0 = .ok (.iconst 1, 1) := by decide +kernel
theorem dX1_everybody_1 : decode cX1_everybody 1 = .ok (.aload_n 0, 1) := by decide +kernel
theorem dX1_everybody_2 : decode cX1_everybody 2 = .ok (.getfield 30, 3) := by decide +kernel
theorem dX1_everybody_5 : decode cX1_everybody 5 = .ok (.ishl, 1) := by decide +kernel
theorem dX1_everybody_6 : decode cX1_everybody 6 = .ok (.iconst 1, 1) := by decide +kernel
theorem dX1_everybody_7 : decode cX1_everybody 7 = .ok (.isub, 1) := by decide +kernel
theorem dX1_everybody_8 : decode cX1_everybody 8 = .ok (.ireturn, 1) := by decide +kernel
set_option maxRecDepth 20000 in
theorem ggX1_readFrom_X2_clerksTold : GoodIn wsX1_readFrom wsX2_clerksTold := goodIn_r _ [15, 16, 33, 34] (by decide +kernel) (by decide +kernel)
set_option maxRecDepth 20000 in
theorem gX1_readFrom_X2_clerksTold : GoodIn wsX1_readFrom (wsV RX1 34 RX2 yX2_clerksTold wsX2_clerksTold) := goodIn_app (goodIn_of _ (by decide +kernel)) ggX1_readFrom_X2_clerksTold
set_option maxRecDepth 20000 in
theorem ggX1_readFrom_X2_letterOf : GoodIn wsX1_readFrom wsX2_letterOf := goodIn_r _ [20, 16, 21, 33, 34] (by decide +kernel) (by decide +kernel)
set_option maxRecDepth 20000 in
theorem gX1_readFrom_X2_letterOf : GoodIn wsX1_readFrom (wsV RX1 46 RX2 yX2_letterOf wsX2_letterOf) := goodIn_app (goodIn_of _ (by decide +kernel)) ggX1_readFrom_X2_letterOf
set_option maxRecDepth 20000 in
theorem ggX1_readFrom_X1_noneOrFrom : GoodIn wsX1_readFrom wsX1_noneOrFrom := goodIn_r _ [25] (by decide +kernel) (by decide +kernel)
set_option maxRecDepth 20000 in
theorem gX1_readFrom_X1_noneOrFrom : GoodIn wsX1_readFrom (va_wsS RX1 49 yX1_noneOrFrom wsX1_noneOrFrom) := goodIn_app (goodIn_of _ (by decide +kernel)) ggX1_readFrom_X1_noneOrFrom
theorem dX1_readFrom_0 : decode cX1_readFrom 0 = .ok (.aload_n 0, 1) := by decide +kernel
theorem dX1_readFrom_1 : decode cX1_readFrom 1 = .ok (.aload_n 1, 1) := by decide +kernel
theorem dX1_readFrom_2 : decode cX1_readFrom 2 = .ok (.invokevirtual 34, 3) := by decide +kernel
theorem dX1_readFrom_5 : decode cX1_readFrom 5 = .ok (.iconst 4, 1) := by decide +kernel
theorem dX1_readFrom_6 : decode cX1_readFrom 6 = .ok (.invokestatic 40, 3) := by decide +kernel
theorem dX1_readFrom_9 : decode cX1_readFrom 9 = .ok (.putfield 30, 3) := by decide +kernel
theorem dX1_readFrom_12 : decode cX1_readFrom 12 = .ok (.iconst 0, 1) := by decide +kernel
theorem dX1_readFrom_13 : decode cX1_readFrom 13 = .ok (.istore_n 2, 1) := by decide +kernel
theorem dX1_readFrom_14 : decode cX1_readFrom 14 = .ok (.iload_n 2, 1) := by decide +kernel
theorem dX1_readFrom_15 : decode cX1_readFrom 15 = .ok (.iconst 4, 1) := by decide +kernel
theorem dX1_readFrom_16 : decode cX1_readFrom 16 = .ok (.if_icmp .ge 92, 3) := by decide +kernel
theorem dX1_readFrom_19 : decode cX1_readFrom 19 = .ok (.aload_n 0, 1) := by decide +kernel
theorem dX1_readFrom_20 : decode cX1_readFrom 20 = .ok (.getfield 9, 3) := by decide +kernel
theorem dX1_readFrom_23 : decode cX1_readFrom 23 = .ok (.iload_n 2, 1) := by decide +kernel
theorem dX1_readFrom_24 : decode cX1_readFrom 24 = .ok (.aload_n 1, 1) := by decide +kernel
theorem dX1_readFrom_25 : decode cX1_readFrom 25 = .ok (.iload_n 2, 1) := by decide +kernel
theorem dX1_readFrom_26 : decode cX1_readFrom 26 = .ok (.iconst 1, 1) := by decide +kernel
theorem dX1_readFrom_27 : decode cX1_readFrom 27 = .ok (.invokevirtual 46, 3) := by decide +kernel
theorem dX1_readFrom_30 : decode cX1_readFrom 30 = .ok (.bipush 97, 2) := by decide +kernel
theorem dX1_readFrom_32 : decode cX1_readFrom 32 = .ok (.invokestatic 49, 3) := by decide +kernel
theorem dX1_readFrom_35 : decode cX1_readFrom 35 = .ok (.iastore, 1) := by decide +kernel
theorem dX1_readFrom_36 : decode cX1_readFrom 36 = .ok (.aload_n 0, 1) := by decide +kernel
theorem dX1_readFrom_37 : decode cX1_readFrom 37 = .ok (.getfield 15, 3) := by decide +kernel
theorem dX1_readFrom_40 : decode cX1_readFrom 40 = .ok (.iload_n 2, 1) := by decide +kernel
theorem dX1_readFrom_41 : decode cX1_readFrom 41 = .ok (.aload_n 1, 1) := by decide +kernel
theorem dX1_readFrom_42 : decode cX1_readFrom 42 = .ok (.iload_n 2, 1) := by decide +kernel
theorem dX1_readFrom_43 : decode cX1_readFrom 43 = .ok (.iconst 2, 1) := by decide +kernel
theorem dX1_readFrom_44 : decode cX1_readFrom 44 = .ok (.invokevirtual 46, 3) := by decide +kernel
theorem dX1_readFrom_47 : decode cX1_readFrom 47 = .ok (.bipush 97, 2) := by decide +kernel
theorem dX1_readFrom_49 : decode cX1_readFrom 49 = .ok (.invokestatic 49, 3) := by decide +kernel
theorem dX1_readFrom_52 : decode cX1_readFrom 52 = .ok (.iastore, 1) := by decide +kernel
theorem dX1_readFrom_53 : decode cX1_readFrom 53 = .ok (.aload_n 0, 1) := by decide +kernel
theorem dX1_readFrom_54 : decode cX1_readFrom 54 = .ok (.getfield 18, 3) := by decide +kernel
theorem dX1_readFrom_57 : decode cX1_readFrom 57 = .ok (.iload_n 2, 1) := by decide +kernel
theorem dX1_readFrom_58 : decode cX1_readFrom 58 = .ok (.aload_n 1, 1) := by decide +kernel
theorem dX1_readFrom_59 : decode cX1_readFrom 59 = .ok (.iload_n 2, 1) := by decide +kernel
theorem dX1_readFrom_60 : decode cX1_readFrom 60 = .ok (.iconst 3, 1) := by decide +kernel
theorem dX1_readFrom_61 : decode cX1_readFrom 61 = .ok (.invokevirtual 46, 3) := by decide +kernel
theorem dX1_readFrom_64 : decode cX1_readFrom 64 = .ok (.bipush 97, 2) := by decide +kernel
theorem dX1_readFrom_66 : decode cX1_readFrom 66 = .ok (.invokestatic 49, 3) := by decide +kernel
theorem dX1_readFrom_69 : decode cX1_readFrom 69 = .ok (.iastore, 1) := by decide +kernel
theorem dX1_readFrom_70 : decode cX1_readFrom 70 = .ok (.aload_n 0, 1) := by decide +kernel
theorem dX1_readFrom_71 : decode cX1_readFrom 71 = .ok (.getfield 21, 3) := by decide +kernel
theorem dX1_readFrom_74 : decode cX1_readFrom 74 = .ok (.iload_n 2, 1) := by decide +kernel
theorem dX1_readFrom_75 : decode cX1_readFrom 75 = .ok (.aload_n 1, 1) := by decide +kernel
theorem dX1_readFrom_76 : decode cX1_readFrom 76 = .ok (.iload_n 2, 1) := by decide +kernel
theorem dX1_readFrom_77 : decode cX1_readFrom 77 = .ok (.iconst 4, 1) := by decide +kernel
theorem dX1_readFrom_78 : decode cX1_readFrom 78 = .ok (.invokevirtual 46, 3) := by decide +kernel
theorem dX1_readFrom_81 : decode cX1_readFrom 81 = .ok (.bipush 48, 2) := by decide +kernel
theorem dX1_readFrom_83 : decode cX1_readFrom 83 = .ok (.isub, 1) := by decide +kernel
theorem dX1_readFrom_84 : decode cX1_readFrom 84 = .ok (.iastore, 1) := by decide +kernel
theorem dX1_readFrom_85 : decode cX1_readFrom 85 = .ok (.aload_n 0, 1) := by decide +kernel
theorem dX1_readFrom_86 : decode cX1_readFrom 86 = .ok (.getfield 24, 3) := by decide +kernel
theorem dX1_readFrom_89 : decode cX1_readFrom 89 = .ok (.iload_n 2, 1) := by decide +kernel
theorem dX1_readFrom_90 : decode cX1_readFrom 90 = .ok (.aload_n 1, 1) := by decide +kernel
theorem dX1_readFrom_91 : decode cX1_readFrom 91 = .ok (.iload_n 2, 1) := by decide +kernel
theorem dX1_readFrom_92 : decode cX1_readFrom 92 = .ok (.iconst 5, 1) := by decide +kernel
theorem dX1_readFrom_93 : decode cX1_readFrom 93 = .ok (.invokevirtual 46, 3) := by decide +kernel
theorem dX1_readFrom_96 : decode cX1_readFrom 96 = .ok (.bipush 48, 2) := by decide +kernel
theorem dX1_readFrom_98 : decode cX1_readFrom 98 = .ok (.invokestatic 49, 3) := by decide +kernel
theorem dX1_readFrom_101 : decode cX1_readFrom 101 = .ok (.iastore, 1) := by decide +kernel
theorem dX1_readFrom_102 : decode cX1_readFrom 102 = .ok (.iinc 2 1, 3) := by decide +kernel
theorem dX1_readFrom_105 : decode cX1_readFrom 105 = .ok (.goto (-91), 3) := by decide +kernel
theorem dX1_readFrom_108 : decode cX1_readFrom 108 = .ok (.return_, 1) := by decide +kernel
theorem dX1_noneOrFrom_0 : decode cX1_noneOrFrom 0 = .ok (.iload_n 0, 1) := by decide +kernel
theorem dX1_noneOrFrom_1 : decode cX1_noneOrFrom 1 = .ok (.bipush 45, 2) := by decide +kernel
theorem dX1_noneOrFrom_3 : decode cX1_noneOrFrom 3 = .ok (.if_icmp .ne 7, 3) := by decide +kernel
theorem dX1_noneOrFrom_6 : decode cX1_noneOrFrom 6 = .ok (.iconst 0, 1) := by decide +kernel
theorem dX1_noneOrFrom_7 : decode cX1_noneOrFrom 7 = .ok (.goto 8, 3) := by decide +kernel
theorem dX1_noneOrFrom_10 : decode cX1_noneOrFrom 10 = .ok (.iload_n 0, 1) := by decide +kernel
theorem dX1_noneOrFrom_11 : decode cX1_noneOrFrom 11 = .ok (.iload_n 1, 1) := by decide +kernel
theorem dX1_noneOrFrom_12 : decode cX1_noneOrFrom 12 = .ok (.isub, 1) := by decide +kernel
theorem dX1_noneOrFrom_13 : decode cX1_noneOrFrom 13 = .ok (.iconst 1, 1) := by decide +kernel
theorem dX1_noneOrFrom_14 : decode cX1_noneOrFrom 14 = .ok (.iadd, 1) := by decide +kernel
theorem dX1_noneOrFrom_15 : decode cX1_noneOrFrom 15 = .ok (.ireturn, 1) := by decide +kernel
set_option maxRecDepth 20000 in
theorem ggX1_takeDown_X1_takeDownBy : GoodIn wsX1_takeDown wsX1_takeDownBy := goodIn_r _ [6, 7, 8, 9, 10, 11, 5, 12, 13, 14, 15, 16, 17, 18, 19, 20, 21, 22, 23, 24, 25, 26, 27, 28, 29, 30, 31, 32, 33, 34, 35, 36, 37, 38, 39] (by decide +kernel) (by decide +kernel)
set_option maxRecDepth 20000 in
theorem gX1_takeDown_X1_takeDownBy : GoodIn wsX1_takeDown (wsV RX1 52 RX1 yX1_takeDownBy wsX1_takeDownBy) := goodIn_app (goodIn_of _ (by decide +kernel)) ggX1_takeDown_X1_takeDownBy
theorem dX1_takeDown_0 : decode cX1_takeDown 0 = .ok (.iconst 0, 1) := by decide +kernel
theorem dX1_takeDown_1 : decode cX1_takeDown 1 = .ok (.istore_n 2, 1) := by decide +kernel
theorem dX1_takeDown_2 : decode cX1_takeDown 2 = .ok (.iload_n 2, 1) := by decide +kernel
theorem dX1_takeDown_3 : decode cX1_takeDown 3 = .ok (.aload_n 0, 1) := by decide +kernel
theorem dX1_takeDown_4 : decode cX1_takeDown 4 = .ok (.getfield 30, 3) := by decide +kernel
theorem dX1_takeDown_7 : decode cX1_takeDown 7 = .ok (.if_icmp .ge 15, 3) := by decide +kernel
theorem dX1_takeDown_10 : decode cX1_takeDown 10 = .ok (.aload_n 0, 1) := by decide +kernel
theorem dX1_takeDown_11 : decode cX1_takeDown 11 = .ok (.iload_n 2, 1) := by decide +kernel
theorem dX1_takeDown_12 : decode cX1_takeDown 12 = .ok (.iload_n 1, 1) := by decide +kernel
theorem dX1_takeDown_13 : decode cX1_takeDown 13 = .ok (.invokevirtual 52, 3) := by decide +kernel
theorem dX1_takeDown_16 : decode cX1_takeDown 16 = .ok (.iinc 2 1, 3) := by decide +kernel
theorem dX1_takeDown_19 : decode cX1_takeDown 19 = .ok (.goto (-17), 3) := by decide +kernel
theorem dX1_takeDown_22 : decode cX1_takeDown 22 = .ok (.return_, 1) := by decide +kernel
set_option maxRecDepth 20000 in
theorem ggX1_takeDownBy_X1_pageFrom : GoodIn wsX1_takeDownBy wsX1_pageFrom := goodIn_r _ [7, 8, 9, 10, 11, 12, 13, 6, 14, 15, 16, 17, 18, 19, 20, 21, 22, 23, 24, 25, 26, 27, 28, 29, 30, 31, 32, 33, 34] (by decide +kernel) (by decide +kernel)
set_option maxRecDepth 20000 in
theorem gX1_takeDownBy_X1_pageFrom : GoodIn wsX1_takeDownBy (wsV RX1 56 RX1 yX1_pageFrom wsX1_pageFrom) := goodIn_app (goodIn_of _ (by decide +kernel)) ggX1_takeDownBy_X1_pageFrom
theorem dX1_takeDownBy_0 : decode cX1_takeDownBy 0 = .ok (.aload_n 0, 1) := by decide +kernel
theorem dX1_takeDownBy_1 : decode cX1_takeDownBy 1 = .ok (.getfield 24, 3) := by decide +kernel
theorem dX1_takeDownBy_4 : decode cX1_takeDownBy 4 = .ok (.iload_n 1, 1) := by decide +kernel
theorem dX1_takeDownBy_5 : decode cX1_takeDownBy 5 = .ok (.iaload, 1) := by decide +kernel
theorem dX1_takeDownBy_6 : decode cX1_takeDownBy 6 = .ok (.iconst 1, 1) := by decide +kernel
theorem dX1_takeDownBy_7 : decode cX1_takeDownBy 7 = .ok (.isub, 1) := by decide +kernel
theorem dX1_takeDownBy_8 : decode cX1_takeDownBy 8 = .ok (.istore_n 3, 1) := by decide +kernel
theorem dX1_takeDownBy_9 : decode cX1_takeDownBy 9 = .ok (.aload_n 0, 1) := by decide +kernel
theorem dX1_takeDownBy_10 : decode cX1_takeDownBy 10 = .ok (.getfield 27, 3) := by decide +kernel
theorem dX1_takeDownBy_13 : decode cX1_takeDownBy 13 = .ok (.iload_n 1, 1) := by decide +kernel
theorem dX1_takeDownBy_14 : decode cX1_takeDownBy 14 = .ok (.aload_n 0, 1) := by decide +kernel
theorem dX1_takeDownBy_15 : decode cX1_takeDownBy 15 = .ok (.iload_n 1, 1) := by decide +kernel
theorem dX1_takeDownBy_16 : decode cX1_takeDownBy 16 = .ok (.iload_n 3, 1) := by decide +kernel
theorem dX1_takeDownBy_17 : decode cX1_takeDownBy 17 = .ok (.ifCond .lt 17, 3) := by decide +kernel
theorem dX1_takeDownBy_20 : decode cX1_takeDownBy 20 = .ok (.iload_n 3, 1) := by decide +kernel
theorem dX1_takeDownBy_21 : decode cX1_takeDownBy 21 = .ok (.iload_n 1, 1) := by decide +kernel
theorem dX1_takeDownBy_22 : decode cX1_takeDownBy 22 = .ok (.if_icmp .ge 12, 3) := by decide +kernel
theorem dX1_takeDownBy_25 : decode cX1_takeDownBy 25 = .ok (.aload_n 0, 1) := by decide +kernel
theorem dX1_takeDownBy_26 : decode cX1_takeDownBy 26 = .ok (.getfield 27, 3) := by decide +kernel
theorem dX1_takeDownBy_29 : decode cX1_takeDownBy 29 = .ok (.iload_n 3, 1) := by decide +kernel
theorem dX1_takeDownBy_30 : decode cX1_takeDownBy 30 = .ok (.iaload, 1) := by decide +kernel
theorem dX1_takeDownBy_31 : decode cX1_takeDownBy 31 = .ok (.goto 4, 3) := by decide +kernel
theorem dX1_takeDownBy_34 : decode cX1_takeDownBy 34 = .ok (.iload_n 2, 1) := by decide +kernel
theorem dX1_takeDownBy_35 : decode cX1_takeDownBy 35 = .ok (.invokevirtual 56, 3) := by decide +kernel
theorem dX1_takeDownBy_38 : decode cX1_takeDownBy 38 = .ok (.iastore, 1) := by decide +kernel
theorem dX1_takeDownBy_39 : decode cX1_takeDownBy 39 = .ok (.return_, 1) := by decide +kernel
set_option maxRecDepth 20000 in
theorem ggX1_pageFrom_X1_taken : GoodIn wsX1_pageFrom wsX1_taken := goodIn_r _ [8, 9, 10, 11, 12, 13, 14, 15, 16, 17, 7, 18, 19, 20, 21] (by decide +kernel) (by decide +kernel)
set_option maxRecDepth 20000 in
theorem gX1_pageFrom_X1_taken : GoodIn wsX1_pageFrom (va_wsS RX1 59 yX1_taken wsX1_taken) := goodIn_app (goodIn_of _ (by decide +kernel)) ggX1_pageFrom_X1_taken
theorem dX1_pageFrom_0 : decode cX1_pageFrom 0 = .ok (.iload_n 2, 1) := by decide +kernel
theorem dX1_pageFrom_1 : decode cX1_pageFrom 1 = .ok (.aload_n 0, 1) := by decide +kernel
theorem dX1_pageFrom_2 : decode cX1_pageFrom 2 = .ok (.getfield 9, 3) := by decide +kernel
theorem dX1_pageFrom_5 : decode cX1_pageFrom 5 = .ok (.iload_n 1, 1) := by decide +kernel
theorem dX1_pageFrom_6 : decode cX1_pageFrom 6 = .ok (.iaload, 1) := by decide +kernel
theorem dX1_pageFrom_7 : decode cX1_pageFrom 7 = .ok (.aload_n 0, 1) := by decide +kernel
theorem dX1_pageFrom_8 : decode cX1_pageFrom 8 = .ok (.getfield 15, 3) := by decide +kernel
theorem dX1_pageFrom_11 : decode cX1_pageFrom 11 = .ok (.iload_n 1, 1) := by decide +kernel
theorem dX1_pageFrom_12 : decode cX1_pageFrom 12 = .ok (.iaload, 1) := by decide +kernel
theorem dX1_pageFrom_13 : decode cX1_pageFrom 13 = .ok (.aload_n 0, 1) := by decide +kernel
theorem dX1_pageFrom_14 : decode cX1_pageFrom 14 = .ok (.getfield 18, 3) := by decide +kernel
theorem dX1_pageFrom_17 : decode cX1_pageFrom 17 = .ok (.iload_n 1, 1) := by decide +kernel
theorem dX1_pageFrom_18 : decode cX1_pageFrom 18 = .ok (.iaload, 1) := by decide +kernel
theorem dX1_pageFrom_19 : decode cX1_pageFrom 19 = .ok (.aload_n 0, 1) := by decide +kernel
theorem dX1_pageFrom_20 : decode cX1_pageFrom 20 = .ok (.getfield 21, 3) := by decide +kernel
theorem dX1_pageFrom_23 : decode cX1_pageFrom 23 = .ok (.iload_n 1, 1) := by decide +kernel
theorem dX1_pageFrom_24 : decode cX1_pageFrom 24 = .ok (.iaload, 1) := by decide +kernel
theorem dX1_pageFrom_25 : decode cX1_pageFrom 25 = .ok (.invokestatic 59, 3) := by decide +kernel
theorem dX1_pageFrom_28 : decode cX1_pageFrom 28 = .ok (.ireturn, 1) := by decide +kernel
set_option maxRecDepth 20000 in
theorem ggX1_taken_X4_wordsIn : GoodIn wsX1_taken wsX4_wordsIn := goodIn_r _ [4] (by decide +kernel) (by decide +kernel)
set_option maxRecDepth 20000 in
theorem gX1_taken_X4_wordsIn : GoodIn wsX1_taken (va_wsS RX1 65 yX4_wordsIn wsX4_wordsIn) := goodIn_app (goodIn_of _ (by decide +kernel)) ggX1_taken_X4_wordsIn
set_option maxRecDepth 20000 in
theorem ggX1_taken_X4_wordAt : GoodIn wsX1_taken wsX4_wordAt := goodIn_r _ [7] (by decide +kernel) (by decide +kernel)
set_option maxRecDepth 20000 in
theorem gX1_taken_X4_wordAt : GoodIn wsX1_taken (va_wsS RX1 69 yX4_wordAt wsX4_wordAt) := goodIn_app (goodIn_of _ (by decide +kernel)) ggX1_taken_X4_wordAt
set_option maxRecDepth 20000 in
theorem ggX1_taken_X1_isTired : GoodIn wsX1_taken wsX1_isTired := goodIn_r _ [11] (by decide +kernel) (by decide +kernel)
set_option maxRecDepth 20000 in
theorem gX1_taken_X1_isTired : GoodIn wsX1_taken (va_wsS RX1 73 yX1_isTired wsX1_isTired) := goodIn_app (goodIn_of _ (by decide +kernel)) ggX1_taken_X1_isTired
set_option maxRecDepth 20000 in
theorem ggX1_taken_X4_with : GoodIn wsX1_taken wsX4_with := goodIn_r _ [14] (by decide +kernel) (by decide +kernel)
set_option maxRecDepth 20000 in
theorem gX1_taken_X4_with : GoodIn wsX1_taken (va_wsS RX1 77 yX4_with wsX4_with) := goodIn_app (goodIn_of _ (by decide +kernel)) ggX1_taken_X4_with
theorem dX1_taken_0 : decode cX1_taken 0 = .ok (.iconst 1, 1) := by decide +kernel
theorem dX1_taken_1 : decode cX1_taken 1 = .ok (.istore 5, 2) := by decide +kernel
theorem dX1_taken_3 : decode cX1_taken 3 = .ok (.iload_n 0, 1) := by decide +kernel
theorem dX1_taken_4 : decode cX1_taken 4 = .ok (.invokestatic 65, 3) := by decide +kernel
theorem dX1_taken_7 : decode cX1_taken 7 = .ok (.istore 6, 2) := by decide +kernel
theorem dX1_taken_9 : decode cX1_taken 9 = .ok (.iconst 0, 1) := by decide +kernel
theorem dX1_taken_10 : decode cX1_taken 10 = .ok (.istore 7, 2) := by decide +kernel
theorem dX1_taken_12 : decode cX1_taken 12 = .ok (.iload 7, 2) := by decide +kernel
theorem dX1_taken_14 : decode cX1_taken 14 = .ok (.iload 6, 2) := by decide +kernel
theorem dX1_taken_16 : decode cX1_taken 16 = .ok (.if_icmp .ge 72, 3) := by decide +kernel
theorem dX1_taken_19 : decode cX1_taken 19 = .ok (.iload_n 0, 1) := by decide +kernel
theorem dX1_taken_20 : decode cX1_taken 20 = .ok (.iload 6, 2) := by decide +kernel
theorem dX1_taken_22 : decode cX1_taken 22 = .ok (.iload 7, 2) := by decide +kernel
theorem dX1_taken_24 : decode cX1_taken 24 = .ok (.invokestatic 69, 3) := by decide +kernel
theorem dX1_taken_27 : decode cX1_taken 27 = .ok (.istore 8, 2) := by decide +kernel
theorem dX1_taken_29 : decode cX1_taken 29 = .ok (.iload 7, 2) := by decide +kernel
theorem dX1_taken_31 : decode cX1_taken 31 = .ok (.iload 4, 2) := by decide +kernel
theorem dX1_taken_33 : decode cX1_taken 33 = .ok (.invokestatic 73, 3) := by decide +kernel
theorem dX1_taken_36 : decode cX1_taken 36 = .ok (.ifCond .ne 11, 3) := by decide +kernel
theorem dX1_taken_39 : decode cX1_taken 39 = .ok (.iload 8, 2) := by decide +kernel
theorem dX1_taken_41 : decode cX1_taken 41 = .ok (.iconst 1, 1) := by decide +kernel
theorem dX1_taken_42 : decode cX1_taken 42 = .ok (.iadd, 1) := by decide +kernel
theorem dX1_taken_43 : decode cX1_taken 43 = .ok (.iload_n 1, 1) := by decide +kernel
theorem dX1_taken_44 : decode cX1_taken 44 = .ok (.if_icmp .ne 7, 3) := by decide +kernel
theorem dX1_taken_47 : decode cX1_taken 47 = .ok (.iconst 1, 1) := by decide +kernel
theorem dX1_taken_48 : decode cX1_taken 48 = .ok (.goto 4, 3) := by decide +kernel
theorem dX1_taken_51 : decode cX1_taken 51 = .ok (.iconst 0, 1) := by decide +kernel
theorem dX1_taken_52 : decode cX1_taken 52 = .ok (.istore 9, 2) := by decide +kernel
theorem dX1_taken_54 : decode cX1_taken 54 = .ok (.iload 9, 2) := by decide +kernel
theorem dX1_taken_56 : decode cX1_taken 56 = .ok (.ifCond .ne 26, 3) := by decide +kernel
theorem dX1_taken_59 : decode cX1_taken 59 = .ok (.iload 5, 2) := by decide +kernel
theorem dX1_taken_61 : decode cX1_taken 61 = .ok (.iload 8, 2) := by decide +kernel
theorem dX1_taken_63 : decode cX1_taken 63 = .ok (.iconst 1, 1) := by decide +kernel
theorem dX1_taken_64 : decode cX1_taken 64 = .ok (.iadd, 1) := by decide +kernel
theorem dX1_taken_65 : decode cX1_taken 65 = .ok (.iload_n 2, 1) := by decide +kernel
theorem dX1_taken_66 : decode cX1_taken 66 = .ok (.if_icmp .ne 9, 3) := by decide +kernel
theorem dX1_taken_69 : decode cX1_taken 69 = .ok (.iload_n 3, 1) := by decide +kernel
theorem dX1_taken_70 : decode cX1_taken 70 = .ok (.iconst 1, 1) := by decide +kernel
theorem dX1_taken_71 : decode cX1_taken 71 = .ok (.isub, 1) := by decide +kernel
theorem dX1_taken_72 : decode cX1_taken 72 = .ok (.goto 5, 3) := by decide +kernel
theorem dX1_taken_75 : decode cX1_taken 75 = .ok (.iload 8, 2) := by decide +kernel
theorem dX1_taken_77 : decode cX1_taken 77 = .ok (.invokestatic 77, 3) := by decide +kernel
theorem dX1_taken_80 : decode cX1_taken 80 = .ok (.istore 5, 2) := by decide +kernel
theorem dX1_taken_82 : decode cX1_taken 82 = .ok (.iinc 7 1, 3) := by decide +kernel
theorem dX1_taken_85 : decode cX1_taken 85 = .ok (.goto (-73), 3) := by decide +kernel
theorem dX1_taken_88 : decode cX1_taken 88 = .ok (.iload 5, 2) := by decide +kernel
theorem dX1_taken_90 : decode cX1_taken 90 = .ok (.ireturn, 1) := by decide +kernel
theorem dX1_isTired_0 : decode cX1_isTired 0 = .ok (.iload_n 0, 1) := by decide +kernel
theorem dX1_isTired_1 : decode cX1_isTired 1 = .ok (.iload_n 1, 1) := by decide +kernel
theorem dX1_isTired_2 : decode cX1_isTired 2 = .ok (.if_icmp .le 16, 3) := by decide +kernel
theorem dX1_isTired_5 : decode cX1_isTired 5 = .ok (.iload_n 0, 1) := by decide +kernel
theorem dX1_isTired_6 : decode cX1_isTired 6 = .ok (.iload_n 1, 1) := by decide +kernel
theorem dX1_isTired_7 : decode cX1_isTired 7 = .ok (.isub, 1) := by decide +kernel
theorem dX1_isTired_8 : decode cX1_isTired 8 = .ok (.iconst 2, 1) := by decide +kernel
theorem dX1_isTired_9 : decode cX1_isTired 9 = .ok (.irem, 1) := by decide +kernel
theorem dX1_isTired_10 : decode cX1_isTired 10 = .ok (.iconst 1, 1) := by decide +kernel
theorem dX1_isTired_11 : decode cX1_isTired 11 = .ok (.if_icmp .ne 7, 3) := by decide +kernel
theorem dX1_isTired_14 : decode cX1_isTired 14 = .ok (.iconst 1, 1) := by decide +kernel
theorem dX1_isTired_15 : decode cX1_isTired 15 = .ok (.goto 4, 3) := by decide +kernel
theorem dX1_isTired_18 : decode cX1_isTired 18 = .ok (.iconst 0, 1) := by decide +kernel
theorem dX1_isTired_19 : decode cX1_isTired 19 = .ok (.ireturn, 1) := by decide +kernel
set_option maxRecDepth 20000 in
theorem ggX1_hangsOn_X1_has : GoodIn wsX1_hangsOn wsX1_has := goodIn_r _ [6, 7, 8, 9, 10, 11, 12, 13, 14] (by decide +kernel) (by decide +kernel)
set_option maxRecDepth 20000 in
theorem gX1_hangsOn_X1_has : GoodIn wsX1_hangsOn (wsV RX1 80 RX1 yX1_has wsX1_has) := goodIn_app (goodIn_of _ (by decide +kernel)) ggX1_hangsOn_X1_has
theorem dX1_hangsOn_0 : decode cX1_hangsOn 0 = .ok (.iload_n 1, 1) := by decide +kernel
theorem dX1_hangsOn_1 : decode cX1_hangsOn 1 = .ok (.istore_n 3, 1) := by decide +kernel
theorem dX1_hangsOn_2 : decode cX1_hangsOn 2 = .ok (.iconst 0, 1) := by decide +kernel
theorem dX1_hangsOn_3 : decode cX1_hangsOn 3 = .ok (.istore 4, 2) := by decide +kernel
theorem dX1_hangsOn_5 : decode cX1_hangsOn 5 = .ok (.iload 4, 2) := by decide +kernel
theorem dX1_hangsOn_7 : decode cX1_hangsOn 7 = .ok (.iconst 4, 1) := by decide +kernel
theorem dX1_hangsOn_8 : decode cX1_hangsOn 8 = .ok (.if_icmp .ge 33, 3) := by decide +kernel
theorem dX1_hangsOn_11 : decode cX1_hangsOn 11 = .ok (.aload_n 0, 1) := by decide +kernel
theorem dX1_hangsOn_12 : decode cX1_hangsOn 12 = .ok (.iload_n 3, 1) := by decide +kernel
theorem dX1_hangsOn_13 : decode cX1_hangsOn 13 = .ok (.invokevirtual 80, 3) := by decide +kernel
theorem dX1_hangsOn_16 : decode cX1_hangsOn 16 = .ok (.ifCond .eq 25, 3) := by decide +kernel
theorem dX1_hangsOn_19 : decode cX1_hangsOn 19 = .ok (.iload_n 3, 1) := by decide +kernel
theorem dX1_hangsOn_20 : decode cX1_hangsOn 20 = .ok (.iload_n 2, 1) := by decide +kernel
theorem dX1_hangsOn_21 : decode cX1_hangsOn 21 = .ok (.if_icmp .ne 5, 3) := by decide +kernel
theorem dX1_hangsOn_24 : decode cX1_hangsOn 24 = .ok (.iconst 1, 1) := by decide +kernel
theorem dX1_hangsOn_25 : decode cX1_hangsOn 25 = .ok (.ireturn, 1) := by decide +kernel
theorem dX1_hangsOn_26 : decode cX1_hangsOn 26 = .ok (.aload_n 0, 1) := by decide +kernel
theorem dX1_hangsOn_27 : decode cX1_hangsOn 27 = .ok (.getfield 24, 3) := by decide +kernel
theorem dX1_hangsOn_30 : decode cX1_hangsOn 30 = .ok (.iload_n 3, 1) := by decide +kernel
theorem dX1_hangsOn_31 : decode cX1_hangsOn 31 = .ok (.iaload, 1) := by decide +kernel
theorem dX1_hangsOn_32 : decode cX1_hangsOn 32 = .ok (.iconst 1, 1) := by decide +kernel
theorem dX1_hangsOn_33 : decode cX1_hangsOn 33 = .ok (.isub, 1) := by decide +kernel
theorem dX1_hangsOn_34 : decode cX1_hangsOn 34 = .ok (.istore_n 3, 1) := by decide +kernel
theorem dX1_hangsOn_35 : decode cX1_hangsOn 35 = .ok (.iinc 4 1, 3) := by decide +kernel
theorem dX1_hangsOn_38 : decode cX1_hangsOn 38 = .ok (.goto (-33), 3) := by decide +kernel
theorem dX1_hangsOn_41 : decode cX1_hangsOn 41 = .ok (.iconst 0, 1) := by decide +kernel
theorem dX1_hangsOn_42 : decode cX1_hangsOn 42 = .ok (.ireturn, 1) := by decide +kernel
set_option maxRecDepth 20000 in
theorem ggX1_wordsOnPages_X4_wordsIn : GoodIn wsX1_wordsOnPages wsX4_wordsIn := goodIn_r _ [6] (by decide +kernel) (by decide +kernel)
set_option maxRecDepth 20000 in
theorem gX1_wordsOnPages_X4_wordsIn : GoodIn wsX1_wordsOnPages (va_wsS RX1 65 yX4_wordsIn wsX4_wordsIn) := goodIn_app (goodIn_of _ (by decide +kernel)) ggX1_wordsOnPages_X4_wordsIn
theorem dX1_wordsOnPages_0 : decode cX1_wordsOnPages 0 = .ok (.iconst 0, 1) := by decide +kernel
theorem dX1_wordsOnPages_1 : decode cX1_wordsOnPages 1 = .ok (.istore_n 1, 1) := by decide +kernel
theorem dX1_wordsOnPages_2 : decode cX1_wordsOnPages 2 = .ok (.iconst 0, 1) := by decide +kernel
theorem dX1_wordsOnPages_3 : decode cX1_wordsOnPages 3 = .ok (.istore_n 2, 1) := by decide +kernel
theorem dX1_wordsOnPages_4 : decode cX1_wordsOnPages 4 = .ok (.iload_n 2, 1) := by decide +kernel
theorem dX1_wordsOnPages_5 : decode cX1_wordsOnPages 5 = .ok (.aload_n 0, 1) := by decide +kernel
theorem dX1_wordsOnPages_6 : decode cX1_wordsOnPages 6 = .ok (.getfield 30, 3) := by decide +kernel
theorem dX1_wordsOnPages_9 : decode cX1_wordsOnPages 9 = .ok (.if_icmp .ge 21, 3) := by decide +kernel
theorem dX1_wordsOnPages_12 : decode cX1_wordsOnPages 12 = .ok (.iload_n 1, 1) := by decide +kernel
theorem dX1_wordsOnPages_13 : decode cX1_wordsOnPages 13 = .ok (.aload_n 0, 1) := by decide +kernel
theorem dX1_wordsOnPages_14 : decode cX1_wordsOnPages 14 = .ok (.getfield 27, 3) := by decide +kernel
theorem dX1_wordsOnPages_17 : decode cX1_wordsOnPages 17 = .ok (.iload_n 2, 1) := by decide +kernel
theorem dX1_wordsOnPages_18 : decode cX1_wordsOnPages 18 = .ok (.iaload, 1) := by decide +kernel
theorem dX1_wordsOnPages_19 : decode cX1_wordsOnPages 19 = .ok (.invokestatic 65, 3) := by decide +kernel
theorem dX1_wordsOnPages_22 : decode cX1_wordsOnPages 22 = .ok (.iadd, 1) := by decide +kernel
theorem dX1_wordsOnPages_23 : decode cX1_wordsOnPages 23 = .ok (.istore_n 1, 1) := by decide +kernel
theorem dX1_wordsOnPages_24 : decode cX1_wordsOnPages 24 = .ok (.iinc 2 1, 3) := by decide +kernel
theorem dX1_wordsOnPages_27 : decode cX1_wordsOnPages 27 = .ok (.goto (-23), 3) := by decide +kernel
theorem dX1_wordsOnPages_30 : decode cX1_wordsOnPages 30 = .ok (.iload_n 1, 1) := by decide +kernel
theorem dX1_wordsOnPages_31 : decode cX1_wordsOnPages 31 = .ok (.ireturn, 1) := by decide +kernel
theorem dX1_pagesOf_0 : decode cX1_pagesOf 0 = .ok (.lconst 1, 1) := by decide +kernel
theorem dX1_pagesOf_1 : decode cX1_pagesOf 1 = .ok (.lstore_n 2, 1) := by decide +kernel
theorem dX1_pagesOf_2 : decode cX1_pagesOf 2 = .ok (.iconst 0, 1) := by decide +kernel
theorem dX1_pagesOf_3 : decode cX1_pagesOf 3 = .ok (.istore 4, 2) := by decide +kernel
theorem dX1_pagesOf_5 : decode cX1_pagesOf 5 = .ok (.iload 4, 2) := by decide +kernel
theorem dX1_pagesOf_7 : decode cX1_pagesOf 7 = .ok (.aload_n 0, 1) := by decide +kernel
theorem dX1_pagesOf_8 : decode cX1_pagesOf 8 = .ok (.getfield 30, 3) := by decide +kernel
theorem dX1_pagesOf_11 : decode cX1_pagesOf 11 = .ok (.if_icmp .ge 32, 3) := by decide +kernel
theorem dX1_pagesOf_14 : decode cX1_pagesOf 14 = .ok (.iload_n 1, 1) := by decide +kernel
theorem dX1_pagesOf_15 : decode cX1_pagesOf 15 = .ok (.iload 4, 2) := by decide +kernel
theorem dX1_pagesOf_17 : decode cX1_pagesOf 17 = .ok (.ishr, 1) := by decide +kernel
theorem dX1_pagesOf_18 : decode cX1_pagesOf 18 = .ok (.iconst 1, 1) := by decide +kernel
theorem dX1_pagesOf_19 : decode cX1_pagesOf 19 = .ok (.iand, 1) := by decide +kernel
theorem dX1_pagesOf_20 : decode cX1_pagesOf 20 = .ok (.ifCond .eq 17, 3) := by decide +kernel
theorem dX1_pagesOf_23 : decode cX1_pagesOf 23 = .ok (.lload_n 2, 1) := by decide +kernel
theorem dX1_pagesOf_24 : decode cX1_pagesOf 24 = .ok (.bipush 13, 2) := by decide +kernel
theorem dX1_pagesOf_26 : decode cX1_pagesOf 26 = .ok (.lshl, 1) := by decide +kernel
theorem dX1_pagesOf_27 : decode cX1_pagesOf 27 = .ok (.aload_n 0, 1) := by decide +kernel
theorem dX1_pagesOf_28 : decode cX1_pagesOf 28 = .ok (.getfield 27, 3) := by decide +kernel
theorem dX1_pagesOf_31 : decode cX1_pagesOf 31 = .ok (.iload 4, 2) := by decide +kernel
theorem dX1_pagesOf_33 : decode cX1_pagesOf 33 = .ok (.iaload, 1) := by decide +kernel
theorem dX1_pagesOf_34 : decode cX1_pagesOf 34 = .ok (.i2l, 1) := by decide +kernel
theorem dX1_pagesOf_35 : decode cX1_pagesOf 35 = .ok (.lor, 1) := by decide +kernel
theorem dX1_pagesOf_36 : decode cX1_pagesOf 36 = .ok (.lstore_n 2, 1) := by decide +kernel
theorem dX1_pagesOf_37 : decode cX1_pagesOf 37 = .ok (.iinc 4 1, 3) := by decide +kernel
theorem dX1_pagesOf_40 : decode cX1_pagesOf 40 = .ok (.goto (-35), 3) := by decide +kernel
theorem dX1_pagesOf_43 : decode cX1_pagesOf 43 = .ok (.lload_n 2, 1) := by decide +kernel
theorem dX1_pagesOf_44 : decode cX1_pagesOf 44 = .ok (.lreturn, 1) := by decide +kernel
theorem dX1_habitsNow_0 : decode cX1_habitsNow 0 = .ok (.lconst 0, 1) := by decide +kernel
theorem dX1_habitsNow_1 : decode cX1_habitsNow 1 = .ok (.lstore_n 1, 1) := by decide +kernel
theorem dX1_habitsNow_2 : decode cX1_habitsNow 2 = .ok (.iconst 3, 1) := by decide +kernel
theorem dX1_habitsNow_3 : decode cX1_habitsNow 3 = .ok (.istore_n 3, 1) := by decide +kernel
theorem dX1_habitsNow_4 : decode cX1_habitsNow 4 = .ok (.iload_n 3, 1) := by decide +kernel
theorem dX1_habitsNow_5 : decode cX1_habitsNow 5 = .ok (.ifCond .lt 43, 3) := by decide +kernel
theorem dX1_habitsNow_8 : decode cX1_habitsNow 8 = .ok (.lload_n 1, 1) := by decide +kernel
theorem dX1_habitsNow_9 : decode cX1_habitsNow 9 = .ok (.bipush 9, 2) := by decide +kernel
theorem dX1_habitsNow_11 : decode cX1_habitsNow 11 = .ok (.lshl, 1) := by decide +kernel
theorem dX1_habitsNow_12 : decode cX1_habitsNow 12 = .ok (.aload_n 0, 1) := by decide +kernel
theorem dX1_habitsNow_13 : decode cX1_habitsNow 13 = .ok (.getfield 15, 3) := by decide +kernel
theorem dX1_habitsNow_16 : decode cX1_habitsNow 16 = .ok (.iload_n 3, 1) := by decide +kernel
theorem dX1_habitsNow_17 : decode cX1_habitsNow 17 = .ok (.iaload, 1) := by decide +kernel
theorem dX1_habitsNow_18 : decode cX1_habitsNow 18 = .ok (.bipush 6, 2) := by decide +kernel
theorem dX1_habitsNow_20 : decode cX1_habitsNow 20 = .ok (.ishl, 1) := by decide +kernel
theorem dX1_habitsNow_21 : decode cX1_habitsNow 21 = .ok (.i2l, 1) := by decide +kernel
theorem dX1_habitsNow_22 : decode cX1_habitsNow 22 = .ok (.lor, 1) := by decide +kernel
theorem dX1_habitsNow_23 : decode cX1_habitsNow 23 = .ok (.aload_n 0, 1) := by decide +kernel
theorem dX1_habitsNow_24 : decode cX1_habitsNow 24 = .ok (.getfield 18, 3) := by decide +kernel
theorem dX1_habitsNow_27 : decode cX1_habitsNow 27 = .ok (.iload_n 3, 1) := by decide +kernel
theorem dX1_habitsNow_28 : decode cX1_habitsNow 28 = .ok (.iaload, 1) := by decide +kernel
theorem dX1_habitsNow_29 : decode cX1_habitsNow 29 = .ok (.iconst 3, 1) := by decide +kernel
theorem dX1_habitsNow_30 : decode cX1_habitsNow 30 = .ok (.ishl, 1) := by decide +kernel
theorem dX1_habitsNow_31 : decode cX1_habitsNow 31 = .ok (.i2l, 1) := by decide +kernel
theorem dX1_habitsNow_32 : decode cX1_habitsNow 32 = .ok (.lor, 1) := by decide +kernel
theorem dX1_habitsNow_33 : decode cX1_habitsNow 33 = .ok (.aload_n 0, 1) := by decide +kernel
theorem dX1_habitsNow_34 : decode cX1_habitsNow 34 = .ok (.getfield 24, 3) := by decide +kernel
theorem dX1_habitsNow_37 : decode cX1_habitsNow 37 = .ok (.iload_n 3, 1) := by decide +kernel
theorem dX1_habitsNow_38 : decode cX1_habitsNow 38 = .ok (.iaload, 1) := by decide +kernel
theorem dX1_habitsNow_39 : decode cX1_habitsNow 39 = .ok (.i2l, 1) := by decide +kernel
theorem dX1_habitsNow_40 : decode cX1_habitsNow 40 = .ok (.lor, 1) := by decide +kernel
theorem dX1_habitsNow_41 : decode cX1_habitsNow 41 = .ok (.lstore_n 1, 1) := by decide +kernel
theorem dX1_habitsNow_42 : decode cX1_habitsNow 42 = .ok (.iinc 3 (-1), 3) := by decide +kernel
theorem dX1_habitsNow_45 : decode cX1_habitsNow 45 = .ok (.goto (-41), 3) := by decide +kernel
theorem dX1_habitsNow_48 : decode cX1_habitsNow 48 = .ok (.lload_n 1, 1) := by decide +kernel
theorem dX1_habitsNow_49 : decode cX1_habitsNow 49 = .ok (.lreturn, 1) := by decide +kernel
theorem dX1_putBack_0 : decode cX1_putBack 0 = .ok (.iconst 0, 1) := by decide +kernel
theorem dX1_putBack_1 : decode cX1_putBack 1 = .ok (.istore_n 3, 1) := by decide +kernel
theorem dX1_putBack_2 : decode cX1_putBack 2 = .ok (.iload_n 3, 1) := by decide +kernel
theorem dX1_putBack_3 : decode cX1_putBack 3 = .ok (.iconst 4, 1) := by decide +kernel
theorem dX1_putBack_4 : decode cX1_putBack 4 = .ok (.if_icmp .ge 56, 3) := by decide +kernel
theorem dX1_putBack_7 : decode cX1_putBack 7 = .ok (.lload_n 1, 1) := by decide +kernel
theorem dX1_putBack_8 : decode cX1_putBack 8 = .ok (.bipush 9, 2) := by decide +kernel
theorem dX1_putBack_10 : decode cX1_putBack 10 = .ok (.iload_n 3, 1) := by decide +kernel
theorem dX1_putBack_11 : decode cX1_putBack 11 = .ok (.imul, 1) := by decide +kernel
theorem dX1_putBack_12 : decode cX1_putBack 12 = .ok (.lushr, 1) := by decide +kernel
theorem dX1_putBack_13 : decode cX1_putBack 13 = .ok (.l2i, 1) := by decide +kernel
theorem dX1_putBack_14 : decode cX1_putBack 14 = .ok (.istore 4, 2) := by decide +kernel
theorem dX1_putBack_16 : decode cX1_putBack 16 = .ok (.aload_n 0, 1) := by decide +kernel
theorem dX1_putBack_17 : decode cX1_putBack 17 = .ok (.getfield 15, 3) := by decide +kernel
theorem dX1_putBack_20 : decode cX1_putBack 20 = .ok (.iload_n 3, 1) := by decide +kernel
theorem dX1_putBack_21 : decode cX1_putBack 21 = .ok (.iload 4, 2) := by decide +kernel
theorem dX1_putBack_23 : decode cX1_putBack 23 = .ok (.bipush 6, 2) := by decide +kernel
theorem dX1_putBack_25 : decode cX1_putBack 25 = .ok (.ishr, 1) := by decide +kernel
theorem dX1_putBack_26 : decode cX1_putBack 26 = .ok (.bipush 7, 2) := by decide +kernel
theorem dX1_putBack_28 : decode cX1_putBack 28 = .ok (.iand, 1) := by decide +kernel
theorem dX1_putBack_29 : decode cX1_putBack 29 = .ok (.iastore, 1) := by decide +kernel
theorem dX1_putBack_30 : decode cX1_putBack 30 = .ok (.aload_n 0, 1) := by decide +kernel
theorem dX1_putBack_31 : decode cX1_putBack 31 = .ok (.getfield 18, 3) := by decide +kernel
theorem dX1_putBack_34 : decode cX1_putBack 34 = .ok (.iload_n 3, 1) := by decide +kernel
theorem dX1_putBack_35 : decode cX1_putBack 35 = .ok (.iload 4, 2) := by decide +kernel
theorem dX1_putBack_37 : decode cX1_putBack 37 = .ok (.iconst 3, 1) := by decide +kernel
theorem dX1_putBack_38 : decode cX1_putBack 38 = .ok (.ishr, 1) := by decide +kernel
theorem dX1_putBack_39 : decode cX1_putBack 39 = .ok (.bipush 7, 2) := by decide +kernel
theorem dX1_putBack_41 : decode cX1_putBack 41 = .ok (.iand, 1) := by decide +kernel
theorem dX1_putBack_42 : decode cX1_putBack 42 = .ok (.iastore, 1) := by decide +kernel
theorem dX1_putBack_43 : decode cX1_putBack 43 = .ok (.aload_n 0, 1) := by decide +kernel
theorem dX1_putBack_44 : decode cX1_putBack 44 = .ok (.getfield 24, 3) := by decide +kernel
theorem dX1_putBack_47 : decode cX1_putBack 47 = .ok (.iload_n 3, 1) := by decide +kernel
theorem dX1_putBack_48 : decode cX1_putBack 48 = .ok (.iload 4, 2) := by decide +kernel
theorem dX1_putBack_50 : decode cX1_putBack 50 = .ok (.bipush 7, 2) := by decide +kernel
theorem dX1_putBack_52 : decode cX1_putBack 52 = .ok (.iand, 1) := by decide +kernel
theorem dX1_putBack_53 : decode cX1_putBack 53 = .ok (.iastore, 1) := by decide +kernel
theorem dX1_putBack_54 : decode cX1_putBack 54 = .ok (.iinc 3 1, 3) := by decide +kernel
theorem dX1_putBack_57 : decode cX1_putBack 57 = .ok (.goto (-55), 3) := by decide +kernel
theorem dX1_putBack_60 : decode cX1_putBack 60 = .ok (.return_, 1) := by decide +kernel
theorem dX2_init_0 : decode cX2_init 0 = .ok (.aload_n 0, 1) := by decide +kernel
theorem dX2_init_1 : decode cX2_init 1 = .ok (.invokespecial 3, 3) := by decide +kernel
theorem dX2_init_4 : decode cX2_init 4 = .ok (.aload_n 0, 1) := by decide +kernel
theorem dX2_init_5 : decode cX2_init 5 = .ok (.bipush 32, 2) := by decide +kernel
theorem dX2_init_7 : decode cX2_init 7 = .ok (.newarray .int, 2) := by decide +kernel
theorem dX2_init_9 : decode cX2_init 9 = .ok (.putfield 9, 3) := by decide +kernel
theorem dX2_init_12 : decode cX2_init 12 = .ok (.return_, 1) := by decide +kernel
theorem dX2_add_0 : decode cX2_add 0 = .ok (.aload_n 0, 1) := by decide +kernel
theorem dX2_add_1 : decode cX2_add 1 = .ok (.getfield 15, 3) := by decide +kernel
theorem dX2_add_4 : decode cX2_add 4 = .ok (.bipush 32, 2) := by decide +kernel
theorem dX2_add_6 : decode cX2_add 6 = .ok (.if_icmp .ge 23, 3) := by decide +kernel
theorem dX2_add_9 : decode cX2_add 9 = .ok (.aload_n 0, 1) := by decide +kernel
theorem dX2_add_10 : decode cX2_add 10 = .ok (.getfield 9, 3) := by decide +kernel
theorem dX2_add_13 : decode cX2_add 13 = .ok (.aload_n 0, 1) := by decide +kernel
theorem dX2_add_14 : decode cX2_add 14 = .ok (.getfield 15, 3) := by decide +kernel
theorem dX2_add_17 : decode cX2_add 17 = .ok (.iload_n 1, 1) := by decide +kernel
theorem dX2_add_18 : decode cX2_add 18 = .ok (.iastore, 1) := by decide +kernel
theorem dX2_add_19 : decode cX2_add 19 = .ok (.aload_n 0, 1) := by decide +kernel
theorem dX2_add_20 : decode cX2_add 20 = .ok (.dup, 1) := by decide +kernel
theorem dX2_add_21 : decode cX2_add 21 = .ok (.getfield 15, 3) := by decide +kernel
theorem dX2_add_24 : decode cX2_add 24 = .ok (.iconst 1, 1) := by decide +kernel
theorem dX2_add_25 : decode cX2_add 25 = .ok (.iadd, 1) := by decide +kernel
theorem dX2_add_26 : decode cX2_add 26 = .ok (.putfield 15, 3) := by decide +kernel
theorem dX2_add_29 : decode cX2_add 29 = .ok (.return_, 1) := by decide +kernel
set_option maxRecDepth 20000 in
theorem ggX2_firstFault_X2_canStand : GoodIn wsX2_firstFault wsX2_canStand := goodIn_r _ [6, 7, 8, 9, 5, 10, 11, 12, 13, 14, 15] (by decide +kernel) (by decide +kernel)
set_option maxRecDepth 20000 in
theorem gX2_firstFault_X2_canStand : GoodIn wsX2_firstFault (wsV RX2 19 RX2 yX2_canStand wsX2_canStand) := goodIn_app (goodIn_of _ (by decide +kernel)) ggX2_firstFault_X2_canStand
theorem dX2_firstFault_0 : decode cX2_firstFault 0 = .ok (.iconst 0, 1) := by decide +kernel
theorem dX2_firstFault_1 : decode cX2_firstFault 1 = .ok (.istore_n 1, 1) := by decide +kernel
theorem dX2_firstFault_2 : decode cX2_firstFault 2 = .ok (.iload_n 1, 1) := by decide +kernel
theorem dX2_firstFault_3 : decode cX2_firstFault 3 = .ok (.aload_n 0, 1) := by decide +kernel
theorem dX2_firstFault_4 : decode cX2_firstFault 4 = .ok (.getfield 15, 3) := by decide +kernel
theorem dX2_firstFault_7 : decode cX2_firstFault 7 = .ok (.if_icmp .ge 19, 3) := by decide +kernel
theorem dX2_firstFault_10 : decode cX2_firstFault 10 = .ok (.aload_n 0, 1) := by decide +kernel
theorem dX2_firstFault_11 : decode cX2_firstFault 11 = .ok (.iload_n 1, 1) := by decide +kernel
theorem dX2_firstFault_12 : decode cX2_firstFault 12 = .ok (.invokevirtual 19, 3) := by decide +kernel
theorem dX2_firstFault_15 : decode cX2_firstFault 15 = .ok (.ifCond .ne 5, 3) := by decide +kernel
theorem dX2_firstFault_18 : decode cX2_firstFault 18 = .ok (.iload_n 1, 1) := by decide +kernel
theorem dX2_firstFault_19 : decode cX2_firstFault 19 = .ok (.ireturn, 1) := by decide +kernel
theorem dX2_firstFault_20 : decode cX2_firstFault 20 = .ok (.iinc 1 1, 3) := by decide +kernel
theorem dX2_firstFault_23 : decode cX2_firstFault 23 = .ok (.goto (-21), 3) := by decide +kernel
theorem dX2_firstFault_26 : decode cX2_firstFault 26 = .ok (.aload_n 0, 1) := by decide +kernel
theorem dX2_firstFault_27 : decode cX2_firstFault 27 = .ok (.getfield 15, 3) := by decide +kernel
theorem dX2_firstFault_30 : decode cX2_firstFault 30 = .ok (.ifCond .le 19, 3) := by decide +kernel
theorem dX2_firstFault_33 : decode cX2_firstFault 33 = .ok (.aload_n 0, 1) := by decide +kernel
theorem dX2_firstFault_34 : decode cX2_firstFault 34 = .ok (.getfield 15, 3) := by decide +kernel
theorem dX2_firstFault_37 : decode cX2_firstFault 37 = .ok (.iconst 1, 1) := by decide +kernel
theorem dX2_firstFault_38 : decode cX2_firstFault 38 = .ok (.isub, 1) := by decide +kernel
theorem dX2_firstFault_39 : decode cX2_firstFault 39 = .ok (.bipush 6, 2) := by decide +kernel
theorem dX2_firstFault_41 : decode cX2_firstFault 41 = .ok (.irem, 1) := by decide +kernel
theorem dX2_firstFault_42 : decode cX2_firstFault 42 = .ok (.ifCond .ne 7, 3) := by decide +kernel
theorem dX2_firstFault_45 : decode cX2_firstFault 45 = .ok (.iconst 1, 1) := by decide +kernel
theorem dX2_firstFault_46 : decode cX2_firstFault 46 = .ok (.goto 4, 3) := by decide +kernel
theorem dX2_firstFault_49 : decode cX2_firstFault 49 = .ok (.iconst 0, 1) := by decide +kernel
theorem dX2_firstFault_50 : decode cX2_firstFault 50 = .ok (.istore_n 1, 1) := by decide +kernel
theorem dX2_firstFault_51 : decode cX2_firstFault 51 = .ok (.iload_n 1, 1) := by decide +kernel
theorem dX2_firstFault_52 : decode cX2_firstFault 52 = .ok (.ifCond .eq 8, 3) := by decide +kernel
theorem dX2_firstFault_55 : decode cX2_firstFault 55 = .ok (.bipush (-9), 2) := by decide +kernel
theorem dX2_firstFault_57 : decode cX2_firstFault 57 = .ok (.goto 7, 3) := by decide +kernel
theorem dX2_firstFault_60 : decode cX2_firstFault 60 = .ok (.aload_n 0, 1) := by decide +kernel
theorem dX2_firstFault_61 : decode cX2_firstFault 61 = .ok (.getfield 15, 3) := by decide +kernel
theorem dX2_firstFault_64 : decode cX2_firstFault 64 = .ok (.ireturn, 1) := by decide +kernel
theorem dX2_clerksTold_0 : decode cX2_clerksTold 0 = .ok (.aload_n 0, 1) := by decide +kernel
theorem dX2_clerksTold_1 : decode cX2_clerksTold 1 = .ok (.getfield 15, 3) := by decide +kernel
theorem dX2_clerksTold_4 : decode cX2_clerksTold 4 = .ok (.iconst 1, 1) := by decide +kernel
theorem dX2_clerksTold_5 : decode cX2_clerksTold 5 = .ok (.isub, 1) := by decide +kernel
theorem dX2_clerksTold_6 : decode cX2_clerksTold 6 = .ok (.bipush 6, 2) := by decide +kernel
theorem dX2_clerksTold_8 : decode cX2_clerksTold 8 = .ok (.idiv, 1) := by decide +kernel
theorem dX2_clerksTold_9 : decode cX2_clerksTold 9 = .ok (.ireturn, 1) := by decide +kernel
theorem dX2_letterOf_0 : decode cX2_letterOf 0 = .ok (.iconst 1, 1) := by decide +kernel
theorem dX2_letterOf_1 : decode cX2_letterOf 1 = .ok (.bipush 6, 2) := by decide +kernel
theorem dX2_letterOf_3 : decode cX2_letterOf 3 = .ok (.iload_n 1, 1) := by decide +kernel
theorem dX2_letterOf_4 : decode cX2_letterOf 4 = .ok (.imul, 1) := by decide +kernel
theorem dX2_letterOf_5 : decode cX2_letterOf 5 = .ok (.iadd, 1) := by decide +kernel
theorem dX2_letterOf_6 : decode cX2_letterOf 6 = .ok (.iload_n 2, 1) := by decide +kernel
theorem dX2_letterOf_7 : decode cX2_letterOf 7 = .ok (.iadd, 1) := by decide +kernel
theorem dX2_letterOf_8 : decode cX2_letterOf 8 = .ok (.istore_n 3, 1) := by decide +kernel
theorem dX2_letterOf_9 : decode cX2_letterOf 9 = .ok (.iload_n 3, 1) := by decide +kernel
theorem dX2_letterOf_10 : decode cX2_letterOf 10 = .ok (.ifCond .lt 20, 3) := by decide +kernel
theorem dX2_letterOf_13 : decode cX2_letterOf 13 = .ok (.iload_n 3, 1) := by decide +kernel
theorem dX2_letterOf_14 : decode cX2_letterOf 14 = .ok (.aload_n 0, 1) := by decide +kernel
theorem dX2_letterOf_15 : decode cX2_letterOf 15 = .ok (.getfield 15, 3) := by decide +kernel
theorem dX2_letterOf_18 : decode cX2_letterOf 18 = .ok (.if_icmp .ge 12, 3) := by decide +kernel
theorem dX2_letterOf_21 : decode cX2_letterOf 21 = .ok (.aload_n 0, 1) := by decide +kernel
theorem dX2_letterOf_22 : decode cX2_letterOf 22 = .ok (.getfield 9, 3) := by decide +kernel
theorem dX2_letterOf_25 : decode cX2_letterOf 25 = .ok (.iload_n 3, 1) := by decide +kernel
theorem dX2_letterOf_26 : decode cX2_letterOf 26 = .ok (.iaload, 1) := by decide +kernel
theorem dX2_letterOf_27 : decode cX2_letterOf 27 = .ok (.goto 5, 3) := by decide +kernel
theorem dX2_letterOf_30 : decode cX2_letterOf 30 = .ok (.bipush 45, 2) := by decide +kernel
theorem dX2_letterOf_32 : decode cX2_letterOf 32 = .ok (.ireturn, 1) := by decide +kernel
set_option maxRecDepth 20000 in
theorem ggX2_canStand_X2_isWordLetter : GoodIn wsX2_canStand wsX2_isWordLetter := goodIn_r _ [5] (by decide +kernel) (by decide +kernel)
set_option maxRecDepth 20000 in
theorem gX2_canStand_X2_isWordLetter : GoodIn wsX2_canStand (va_wsS RX2 23 yX2_isWordLetter wsX2_isWordLetter) := goodIn_app (goodIn_of _ (by decide +kernel)) ggX2_canStand_X2_isWordLetter
set_option maxRecDepth 20000 in
theorem ggX2_canStand_X2_canBeTo : GoodIn wsX2_canStand wsX2_canBeTo := goodIn_r _ [8, 2, 3, 4, 5] (by decide +kernel) (by decide +kernel)
set_option maxRecDepth 20000 in
theorem gX2_canStand_X2_canBeTo : GoodIn wsX2_canStand (va_wsS RX2 26 yX2_canBeTo wsX2_canBeTo) := goodIn_app (goodIn_of _ (by decide +kernel)) ggX2_canStand_X2_canBeTo
theorem dX2_canStand_0 : decode cX2_canStand 0 = .ok (.aload_n 0, 1) := by decide +kernel
theorem dX2_canStand_1 : decode cX2_canStand 1 = .ok (.getfield 9, 3) := by decide +kernel
theorem dX2_canStand_4 : decode cX2_canStand 4 = .ok (.iload_n 1, 1) := by decide +kernel
theorem dX2_canStand_5 : decode cX2_canStand 5 = .ok (.iaload, 1) := by decide +kernel
theorem dX2_canStand_6 : decode cX2_canStand 6 = .ok (.istore_n 2, 1) := by decide +kernel
theorem dX2_canStand_7 : decode cX2_canStand 7 = .ok (.iload_n 1, 1) := by decide +kernel
theorem dX2_canStand_8 : decode cX2_canStand 8 = .ok (.ifCond .ne 15, 3) := by decide +kernel
theorem dX2_canStand_11 : decode cX2_canStand 11 = .ok (.iload_n 2, 1) := by decide +kernel
theorem dX2_canStand_12 : decode cX2_canStand 12 = .ok (.bipush 67, 2) := by decide +kernel
theorem dX2_canStand_14 : decode cX2_canStand 14 = .ok (.if_icmp .ne 7, 3) := by decide +kernel
theorem dX2_canStand_17 : decode cX2_canStand 17 = .ok (.iconst 1, 1) := by decide +kernel
theorem dX2_canStand_18 : decode cX2_canStand 18 = .ok (.goto 4, 3) := by decide +kernel
theorem dX2_canStand_21 : decode cX2_canStand 21 = .ok (.iconst 0, 1) := by decide +kernel
theorem dX2_canStand_22 : decode cX2_canStand 22 = .ok (.ireturn, 1) := by decide +kernel
theorem dX2_canStand_23 : decode cX2_canStand 23 = .ok (.iload_n 1, 1) := by decide +kernel
theorem dX2_canStand_24 : decode cX2_canStand 24 = .ok (.iconst 1, 1) := by decide +kernel
theorem dX2_canStand_25 : decode cX2_canStand 25 = .ok (.isub, 1) := by decide +kernel
theorem dX2_canStand_26 : decode cX2_canStand 26 = .ok (.bipush 6, 2) := by decide +kernel
theorem dX2_canStand_28 : decode cX2_canStand 28 = .ok (.idiv, 1) := by decide +kernel
theorem dX2_canStand_29 : decode cX2_canStand 29 = .ok (.istore_n 3, 1) := by decide +kernel
theorem dX2_canStand_30 : decode cX2_canStand 30 = .ok (.iload_n 3, 1) := by decide +kernel
theorem dX2_canStand_31 : decode cX2_canStand 31 = .ok (.iconst 4, 1) := by decide +kernel
theorem dX2_canStand_32 : decode cX2_canStand 32 = .ok (.if_icmp .lt 5, 3) := by decide +kernel
theorem dX2_canStand_35 : decode cX2_canStand 35 = .ok (.iconst 0, 1) := by decide +kernel
theorem dX2_canStand_36 : decode cX2_canStand 36 = .ok (.ireturn, 1) := by decide +kernel
theorem dX2_canStand_37 : decode cX2_canStand 37 = .ok (.iload_n 1, 1) := by decide +kernel
theorem dX2_canStand_38 : decode cX2_canStand 38 = .ok (.iconst 1, 1) := by decide +kernel
theorem dX2_canStand_39 : decode cX2_canStand 39 = .ok (.isub, 1) := by decide +kernel
theorem dX2_canStand_40 : decode cX2_canStand 40 = .ok (.bipush 6, 2) := by decide +kernel
theorem dX2_canStand_42 : decode cX2_canStand 42 = .ok (.irem, 1) := by decide +kernel
theorem dX2_canStand_43 : decode cX2_canStand 43 = .ok (.tableswitch 109 1 5 #[33, 33, 52, 65, 83], 33) := by decide +kernel
theorem dX2_canStand_76 : decode cX2_canStand 76 = .ok (.iload_n 2, 1) := by decide +kernel
theorem dX2_canStand_77 : decode cX2_canStand 77 = .ok (.bipush 45, 2) := by decide +kernel
theorem dX2_canStand_79 : decode cX2_canStand 79 = .ok (.if_icmp .eq 10, 3) := by decide +kernel
theorem dX2_canStand_82 : decode cX2_canStand 82 = .ok (.iload_n 2, 1) := by decide +kernel
theorem dX2_canStand_83 : decode cX2_canStand 83 = .ok (.invokestatic 23, 3) := by decide +kernel
theorem dX2_canStand_86 : decode cX2_canStand 86 = .ok (.ifCond .eq 7, 3) := by decide +kernel
theorem dX2_canStand_89 : decode cX2_canStand 89 = .ok (.iconst 1, 1) := by decide +kernel
theorem dX2_canStand_90 : decode cX2_canStand 90 = .ok (.goto 4, 3) := by decide +kernel
theorem dX2_canStand_93 : decode cX2_canStand 93 = .ok (.iconst 0, 1) := by decide +kernel
theorem dX2_canStand_94 : decode cX2_canStand 94 = .ok (.ireturn, 1) := by decide +kernel
theorem dX2_canStand_95 : decode cX2_canStand 95 = .ok (.iload_n 2, 1) := by decide +kernel
theorem dX2_canStand_96 : decode cX2_canStand 96 = .ok (.aload_n 0, 1) := by decide +kernel
theorem dX2_canStand_97 : decode cX2_canStand 97 = .ok (.getfield 9, 3) := by decide +kernel
theorem dX2_canStand_100 : decode cX2_canStand 100 = .ok (.iload_n 1, 1) := by decide +kernel
theorem dX2_canStand_101 : decode cX2_canStand 101 = .ok (.iconst 1, 1) := by decide +kernel
theorem dX2_canStand_102 : decode cX2_canStand 102 = .ok (.isub, 1) := by decide +kernel
theorem dX2_canStand_103 : decode cX2_canStand 103 = .ok (.iaload, 1) := by decide +kernel
theorem dX2_canStand_104 : decode cX2_canStand 104 = .ok (.invokestatic 26, 3) := by decide +kernel
theorem dX2_canStand_107 : decode cX2_canStand 107 = .ok (.ireturn, 1) := by decide +kernel
theorem dX2_canStand_108 : decode cX2_canStand 108 = .ok (.iload_n 2, 1) := by decide +kernel
theorem dX2_canStand_109 : decode cX2_canStand 109 = .ok (.bipush 48, 2) := by decide +kernel
theorem dX2_canStand_111 : decode cX2_canStand 111 = .ok (.if_icmp .lt 13, 3) := by decide +kernel
theorem dX2_canStand_114 : decode cX2_canStand 114 = .ok (.iload_n 2, 1) := by decide +kernel
theorem dX2_canStand_115 : decode cX2_canStand 115 = .ok (.bipush 57, 2) := by decide +kernel
theorem dX2_canStand_117 : decode cX2_canStand 117 = .ok (.if_icmp .gt 7, 3) := by decide +kernel
theorem dX2_canStand_120 : decode cX2_canStand 120 = .ok (.iconst 1, 1) := by decide +kernel
theorem dX2_canStand_121 : decode cX2_canStand 121 = .ok (.goto 4, 3) := by decide +kernel
theorem dX2_canStand_124 : decode cX2_canStand 124 = .ok (.iconst 0, 1) := by decide +kernel
theorem dX2_canStand_125 : decode cX2_canStand 125 = .ok (.ireturn, 1) := by decide +kernel
theorem dX2_canStand_126 : decode cX2_canStand 126 = .ok (.iload_n 2, 1) := by decide +kernel
theorem dX2_canStand_127 : decode cX2_canStand 127 = .ok (.bipush 45, 2) := by decide +kernel
theorem dX2_canStand_129 : decode cX2_canStand 129 = .ok (.if_icmp .eq 17, 3) := by decide +kernel
theorem dX2_canStand_132 : decode cX2_canStand 132 = .ok (.iload_n 2, 1) := by decide +kernel
theorem dX2_canStand_133 : decode cX2_canStand 133 = .ok (.bipush 48, 2) := by decide +kernel
theorem dX2_canStand_135 : decode cX2_canStand 135 = .ok (.if_icmp .lt 15, 3) := by decide +kernel
theorem dX2_canStand_138 : decode cX2_canStand 138 = .ok (.iload_n 2, 1) := by decide +kernel
theorem dX2_canStand_139 : decode cX2_canStand 139 = .ok (.bipush 48, 2) := by decide +kernel
theorem dX2_canStand_141 : decode cX2_canStand 141 = .ok (.iload_n 3, 1) := by decide +kernel
theorem dX2_canStand_142 : decode cX2_canStand 142 = .ok (.iadd, 1) := by decide +kernel
theorem dX2_canStand_143 : decode cX2_canStand 143 = .ok (.if_icmp .ge 7, 3) := by decide +kernel
theorem dX2_canStand_146 : decode cX2_canStand 146 = .ok (.iconst 1, 1) := by decide +kernel
theorem dX2_canStand_147 : decode cX2_canStand 147 = .ok (.goto 4, 3) := by decide +kernel
theorem dX2_canStand_150 : decode cX2_canStand 150 = .ok (.iconst 0, 1) := by decide +kernel
theorem dX2_canStand_151 : decode cX2_canStand 151 = .ok (.ireturn, 1) := by decide +kernel
theorem dX2_canStand_152 : decode cX2_canStand 152 = .ok (.iload_n 2, 1) := by decide +kernel
theorem dX2_canStand_153 : decode cX2_canStand 153 = .ok (.bipush 75, 2) := by decide +kernel
theorem dX2_canStand_155 : decode cX2_canStand 155 = .ok (.if_icmp .ne 7, 3) := by decide +kernel
theorem dX2_canStand_158 : decode cX2_canStand 158 = .ok (.iconst 1, 1) := by decide +kernel
theorem dX2_canStand_159 : decode cX2_canStand 159 = .ok (.goto 4, 3) := by decide +kernel
theorem dX2_canStand_162 : decode cX2_canStand 162 = .ok (.iconst 0, 1) := by decide +kernel
theorem dX2_canStand_163 : decode cX2_canStand 163 = .ok (.ireturn, 1) := by decide +kernel
theorem dX2_isWordLetter_0 : decode cX2_isWordLetter 0 = .ok (.iload_n 0, 1) := by decide +kernel
theorem dX2_isWordLetter_1 : decode cX2_isWordLetter 1 = .ok (.bipush 97, 2) := by decide +kernel
theorem dX2_isWordLetter_3 : decode cX2_isWordLetter 3 = .ok (.if_icmp .lt 13, 3) := by decide +kernel
theorem dX2_isWordLetter_6 : decode cX2_isWordLetter 6 = .ok (.iload_n 0, 1) := by decide +kernel
theorem dX2_isWordLetter_7 : decode cX2_isWordLetter 7 = .ok (.bipush 101, 2) := by decide +kernel
theorem dX2_isWordLetter_9 : decode cX2_isWordLetter 9 = .ok (.if_icmp .ge 7, 3) := by decide +kernel
theorem dX2_isWordLetter_12 : decode cX2_isWordLetter 12 = .ok (.iconst 1, 1) := by decide +kernel
theorem dX2_isWordLetter_13 : decode cX2_isWordLetter 13 = .ok (.goto 4, 3) := by decide +kernel
theorem dX2_isWordLetter_16 : decode cX2_isWordLetter 16 = .ok (.iconst 0, 1) := by decide +kernel
theorem dX2_isWordLetter_17 : decode cX2_isWordLetter 17 = .ok (.ireturn, 1) := by decide +kernel
set_option maxRecDepth 20000 in
theorem ggX2_canBeTo_X2_isWordLetter : GoodIn wsX2_canBeTo wsX2_isWordLetter := goodIn_r _ [4] (by decide +kernel) (by decide +kernel)
set_option maxRecDepth 20000 in
theorem gX2_canBeTo_X2_isWordLetter : GoodIn wsX2_canBeTo (va_wsS RX2 23 yX2_isWordLetter wsX2_isWordLetter) := goodIn_app (goodIn_of _ (by decide +kernel)) ggX2_canBeTo_X2_isWordLetter
theorem dX2_canBeTo_0 : decode cX2_canBeTo 0 = .ok (.iload_n 1, 1) := by decide +kernel
theorem dX2_canBeTo_1 : decode cX2_canBeTo 1 = .ok (.bipush 45, 2) := by decide +kernel
theorem dX2_canBeTo_3 : decode cX2_canBeTo 3 = .ok (.if_icmp .ne 17, 3) := by decide +kernel
theorem dX2_canBeTo_6 : decode cX2_canBeTo 6 = .ok (.iload_n 0, 1) := by decide +kernel
theorem dX2_canBeTo_7 : decode cX2_canBeTo 7 = .ok (.bipush 45, 2) := by decide +kernel
theorem dX2_canBeTo_9 : decode cX2_canBeTo 9 = .ok (.if_icmp .ne 7, 3) := by decide +kernel
theorem dX2_canBeTo_12 : decode cX2_canBeTo 12 = .ok (.iconst 1, 1) := by decide +kernel
theorem dX2_canBeTo_13 : decode cX2_canBeTo 13 = .ok (.goto 24, 3) := by decide +kernel
theorem dX2_canBeTo_16 : decode cX2_canBeTo 16 = .ok (.iconst 0, 1) := by decide +kernel
theorem dX2_canBeTo_17 : decode cX2_canBeTo 17 = .ok (.goto 20, 3) := by decide +kernel
theorem dX2_canBeTo_20 : decode cX2_canBeTo 20 = .ok (.iload_n 0, 1) := by decide +kernel
theorem dX2_canBeTo_21 : decode cX2_canBeTo 21 = .ok (.invokestatic 23, 3) := by decide +kernel
theorem dX2_canBeTo_24 : decode cX2_canBeTo 24 = .ok (.ifCond .eq 12, 3) := by decide +kernel
theorem dX2_canBeTo_27 : decode cX2_canBeTo 27 = .ok (.iload_n 0, 1) := by decide +kernel
theorem dX2_canBeTo_28 : decode cX2_canBeTo 28 = .ok (.iload_n 1, 1) := by decide +kernel
theorem dX2_canBeTo_29 : decode cX2_canBeTo 29 = .ok (.if_icmp .eq 7, 3) := by decide +kernel
theorem dX2_canBeTo_32 : decode cX2_canBeTo 32 = .ok (.iconst 1, 1) := by decide +kernel
theorem dX2_canBeTo_33 : decode cX2_canBeTo 33 = .ok (.goto 4, 3) := by decide +kernel
theorem dX2_canBeTo_36 : decode cX2_canBeTo 36 = .ok (.iconst 0, 1) := by decide +kernel
theorem dX2_canBeTo_37 : decode cX2_canBeTo 37 = .ok (.ireturn, 1) := by decide +kernel
theorem dX3_init_0 : decode cX3_init 0 = .ok (.aload_n 0, 1) := by decide +kernel
theorem dX3_init_1 : decode cX3_init 1 = .ok (.invokespecial 5, 3) := by decide +kernel
theorem dX3_init_4 : decode cX3_init 4 = .ok (.aload_n 0, 1) := by decide +kernel
theorem dX3_init_5 : decode cX3_init 5 = .ok (.sipush 2048, 3) := by decide +kernel
theorem dX3_init_8 : decode cX3_init 8 = .ok (.newarray .long, 2) := by decide +kernel
theorem dX3_init_10 : decode cX3_init 10 = .ok (.putfield 11, 3) := by decide +kernel
theorem dX3_init_13 : decode cX3_init 13 = .ok (.return_, 1) := by decide +kernel
set_option maxRecDepth 20000 in
theorem ggX3_clear_J7_fill_d0a16 : GoodIn wsX3_clear wsJ7_fill_d0a16 := goodIn_r _ [5] (by decide +kernel) (by decide +kernel)
set_option maxRecDepth 20000 in
theorem gX3_clear_J7_fill_d0a16 : GoodIn wsX3_clear (va_wsS RX3 15 yJ7_fill_d0a16 wsJ7_fill_d0a16) := goodIn_app (goodIn_of _ (by decide +kernel)) ggX3_clear_J7_fill_d0a16
theorem dX3_clear_0 : decode cX3_clear 0 = .ok (.aload_n 0, 1) := by decide +kernel
theorem dX3_clear_1 : decode cX3_clear 1 = .ok (.getfield 11, 3) := by decide +kernel
theorem dX3_clear_4 : decode cX3_clear 4 = .ok (.lconst 0, 1) := by decide +kernel
theorem dX3_clear_5 : decode cX3_clear 5 = .ok (.invokestatic 15, 3) := by decide +kernel
theorem dX3_clear_8 : decode cX3_clear 8 = .ok (.return_, 1) := by decide +kernel
theorem dX3_putPage_0 : decode cX3_putPage 0 = .ok (.iload_n 1, 1) := by decide +kernel
theorem dX3_putPage_1 : decode cX3_putPage 1 = .ok (.ifCond .lt 10, 3) := by decide +kernel
theorem dX3_putPage_4 : decode cX3_putPage 4 = .ok (.iload_n 1, 1) := by decide +kernel
theorem dX3_putPage_5 : decode cX3_putPage 5 = .ok (.sipush 2048, 3) := by decide +kernel
theorem dX3_putPage_8 : decode cX3_putPage 8 = .ok (.if_icmp .lt 5, 3) := by decide +kernel
theorem dX3_putPage_11 : decode cX3_putPage 11 = .ok (.iconst 0, 1) := by decide +kernel
theorem dX3_putPage_12 : decode cX3_putPage 12 = .ok (.ireturn, 1) := by decide +kernel
theorem dX3_putPage_13 : decode cX3_putPage 13 = .ok (.aload_n 0, 1) := by decide +kernel
theorem dX3_putPage_14 : decode cX3_putPage 14 = .ok (.getfield 11, 3) := by decide +kernel
theorem dX3_putPage_17 : decode cX3_putPage 17 = .ok (.iload_n 1, 1) := by decide +kernel
theorem dX3_putPage_18 : decode cX3_putPage 18 = .ok (.dup2, 1) := by decide +kernel
theorem dX3_putPage_19 : decode cX3_putPage 19 = .ok (.laload, 1) := by decide +kernel
theorem dX3_putPage_20 : decode cX3_putPage 20 = .ok (.lconst 1, 1) := by decide +kernel
theorem dX3_putPage_21 : decode cX3_putPage 21 = .ok (.ladd, 1) := by decide +kernel
theorem dX3_putPage_22 : decode cX3_putPage 22 = .ok (.lastore, 1) := by decide +kernel
theorem dX3_putPage_23 : decode cX3_putPage 23 = .ok (.aload_n 0, 1) := by decide +kernel
theorem dX3_putPage_24 : decode cX3_putPage 24 = .ok (.getfield 11, 3) := by decide +kernel
theorem dX3_putPage_27 : decode cX3_putPage 27 = .ok (.iload_n 1, 1) := by decide +kernel
theorem dX3_putPage_28 : decode cX3_putPage 28 = .ok (.laload, 1) := by decide +kernel
theorem dX3_putPage_29 : decode cX3_putPage 29 = .ok (.l2i, 1) := by decide +kernel
theorem dX3_putPage_30 : decode cX3_putPage 30 = .ok (.ireturn, 1) := by decide +kernel
theorem dX3_putNew_0 : decode cX3_putNew 0 = .ok (.lload_n 1, 1) := by decide +kernel
theorem dX3_putNew_1 : decode cX3_putNew 1 = .ok (.ldc2_w 21, 3) := by decide +kernel
theorem dX3_putNew_4 : decode cX3_putNew 4 = .ok (.lmul, 1) := by decide +kernel
theorem dX3_putNew_5 : decode cX3_putNew 5 = .ok (.bipush 53, 2) := by decide +kernel
theorem dX3_putNew_7 : decode cX3_putNew 7 = .ok (.lushr, 1) := by decide +kernel
theorem dX3_putNew_8 : decode cX3_putNew 8 = .ok (.l2i, 1) := by decide +kernel
theorem dX3_putNew_9 : decode cX3_putNew 9 = .ok (.istore_n 3, 1) := by decide +kernel
theorem dX3_putNew_10 : decode cX3_putNew 10 = .ok (.iconst 0, 1) := by decide +kernel
theorem dX3_putNew_11 : decode cX3_putNew 11 = .ok (.istore 4, 2) := by decide +kernel
theorem dX3_putNew_13 : decode cX3_putNew 13 = .ok (.iload 4, 2) := by decide +kernel
theorem dX3_putNew_15 : decode cX3_putNew 15 = .ok (.sipush 2048, 3) := by decide +kernel
theorem dX3_putNew_18 : decode cX3_putNew 18 = .ok (.if_icmp .ge 55, 3) := by decide +kernel
theorem dX3_putNew_21 : decode cX3_putNew 21 = .ok (.iload_n 3, 1) := by decide +kernel
theorem dX3_putNew_22 : decode cX3_putNew 22 = .ok (.iload 4, 2) := by decide +kernel
theorem dX3_putNew_24 : decode cX3_putNew 24 = .ok (.iadd, 1) := by decide +kernel
theorem dX3_putNew_25 : decode cX3_putNew 25 = .ok (.sipush 2047, 3) := by decide +kernel
theorem dX3_putNew_28 : decode cX3_putNew 28 = .ok (.iand, 1) := by decide +kernel
theorem dX3_putNew_29 : decode cX3_putNew 29 = .ok (.istore 5, 2) := by decide +kernel
theorem dX3_putNew_31 : decode cX3_putNew 31 = .ok (.aload_n 0, 1) := by decide +kernel
theorem dX3_putNew_32 : decode cX3_putNew 32 = .ok (.getfield 11, 3) := by decide +kernel
theorem dX3_putNew_35 : decode cX3_putNew 35 = .ok (.iload 5, 2) := by decide +kernel
theorem dX3_putNew_37 : decode cX3_putNew 37 = .ok (.laload, 1) := by decide +kernel
theorem dX3_putNew_38 : decode cX3_putNew 38 = .ok (.lconst 0, 1) := by decide +kernel
theorem dX3_putNew_39 : decode cX3_putNew 39 = .ok (.lcmp, 1) := by decide +kernel
theorem dX3_putNew_40 : decode cX3_putNew 40 = .ok (.ifCond .ne 13, 3) := by decide +kernel
theorem dX3_putNew_43 : decode cX3_putNew 43 = .ok (.aload_n 0, 1) := by decide +kernel
theorem dX3_putNew_44 : decode cX3_putNew 44 = .ok (.getfield 11, 3) := by decide +kernel
theorem dX3_putNew_47 : decode cX3_putNew 47 = .ok (.iload 5, 2) := by decide +kernel
theorem dX3_putNew_49 : decode cX3_putNew 49 = .ok (.lload_n 1, 1) := by decide +kernel
theorem dX3_putNew_50 : decode cX3_putNew 50 = .ok (.lastore, 1) := by decide +kernel
theorem dX3_putNew_51 : decode cX3_putNew 51 = .ok (.iconst 1, 1) := by decide +kernel
theorem dX3_putNew_52 : decode cX3_putNew 52 = .ok (.ireturn, 1) := by decide +kernel
theorem dX3_putNew_53 : decode cX3_putNew 53 = .ok (.aload_n 0, 1) := by decide +kernel
theorem dX3_putNew_54 : decode cX3_putNew 54 = .ok (.getfield 11, 3) := by decide +kernel
theorem dX3_putNew_57 : decode cX3_putNew 57 = .ok (.iload 5, 2) := by decide +kernel
theorem dX3_putNew_59 : decode cX3_putNew 59 = .ok (.laload, 1) := by decide +kernel
theorem dX3_putNew_60 : decode cX3_putNew 60 = .ok (.lload_n 1, 1) := by decide +kernel
theorem dX3_putNew_61 : decode cX3_putNew 61 = .ok (.lcmp, 1) := by decide +kernel
theorem dX3_putNew_62 : decode cX3_putNew 62 = .ok (.ifCond .ne 5, 3) := by decide +kernel
theorem dX3_putNew_65 : decode cX3_putNew 65 = .ok (.iconst 0, 1) := by decide +kernel
theorem dX3_putNew_66 : decode cX3_putNew 66 = .ok (.ireturn, 1) := by decide +kernel
theorem dX3_putNew_67 : decode cX3_putNew 67 = .ok (.iinc 4 1, 3) := by decide +kernel
theorem dX3_putNew_70 : decode cX3_putNew 70 = .ok (.goto (-57), 3) := by decide +kernel
theorem dX3_putNew_73 : decode cX3_putNew 73 = .ok (.iconst 0, 1) := by decide +kernel
theorem dX3_putNew_74 : decode cX3_putNew 74 = .ok (.ireturn, 1) := by decide +kernel
theorem dX4_wordsIn_0 : decode cX4_wordsIn 0 = .ok (.iconst 0, 1) := by decide +kernel
theorem dX4_wordsIn_1 : decode cX4_wordsIn 1 = .ok (.istore_n 1, 1) := by decide +kernel
theorem dX4_wordsIn_2 : decode cX4_wordsIn 2 = .ok (.iload_n 0, 1) := by decide +kernel
theorem dX4_wordsIn_3 : decode cX4_wordsIn 3 = .ok (.istore_n 2, 1) := by decide +kernel
theorem dX4_wordsIn_4 : decode cX4_wordsIn 4 = .ok (.iload_n 2, 1) := by decide +kernel
theorem dX4_wordsIn_5 : decode cX4_wordsIn 5 = .ok (.iconst 1, 1) := by decide +kernel
theorem dX4_wordsIn_6 : decode cX4_wordsIn 6 = .ok (.if_icmp .le 19, 3) := by decide +kernel
theorem dX4_wordsIn_9 : decode cX4_wordsIn 9 = .ok (.iload_n 1, 1) := by decide +kernel
theorem dX4_wordsIn_10 : decode cX4_wordsIn 10 = .ok (.bipush 6, 2) := by decide +kernel
theorem dX4_wordsIn_12 : decode cX4_wordsIn 12 = .ok (.if_icmp .ge 13, 3) := by decide +kernel
theorem dX4_wordsIn_15 : decode cX4_wordsIn 15 = .ok (.iinc 1 1, 3) := by decide +kernel
theorem dX4_wordsIn_18 : decode cX4_wordsIn 18 = .ok (.iload_n 2, 1) := by decide +kernel
theorem dX4_wordsIn_19 : decode cX4_wordsIn 19 = .ok (.iconst 2, 1) := by decide +kernel
theorem dX4_wordsIn_20 : decode cX4_wordsIn 20 = .ok (.ishr, 1) := by decide +kernel
theorem dX4_wordsIn_21 : decode cX4_wordsIn 21 = .ok (.istore_n 2, 1) := by decide +kernel
theorem dX4_wordsIn_22 : decode cX4_wordsIn 22 = .ok (.goto (-18), 3) := by decide +kernel
theorem dX4_wordsIn_25 : decode cX4_wordsIn 25 = .ok (.iload_n 1, 1) := by decide +kernel
theorem dX4_wordsIn_26 : decode cX4_wordsIn 26 = .ok (.ireturn, 1) := by decide +kernel
theorem dX4_with_0 : decode cX4_with 0 = .ok (.iload_n 0, 1) := by decide +kernel
theorem dX4_with_1 : decode cX4_with 1 = .ok (.iconst 2, 1) := by decide +kernel
theorem dX4_with_2 : decode cX4_with 2 = .ok (.ishl, 1) := by decide +kernel
theorem dX4_with_3 : decode cX4_with 3 = .ok (.iload_n 1, 1) := by decide +kernel
theorem dX4_with_4 : decode cX4_with 4 = .ok (.ior, 1) := by decide +kernel
theorem dX4_with_5 : decode cX4_with 5 = .ok (.ireturn, 1) := by decide +kernel
theorem dX4_withoutLast_0 : decode cX4_withoutLast 0 = .ok (.iload_n 0, 1) := by decide +kernel
theorem dX4_withoutLast_1 : decode cX4_withoutLast 1 = .ok (.iconst 2, 1) := by decide +kernel
theorem dX4_withoutLast_2 : decode cX4_withoutLast 2 = .ok (.ishr, 1) := by decide +kernel
theorem dX4_withoutLast_3 : decode cX4_withoutLast 3 = .ok (.ireturn, 1) := by decide +kernel
theorem dX4_lastWord_0 : decode cX4_lastWord 0 = .ok (.iload_n 0, 1) := by decide +kernel
theorem dX4_lastWord_1 : decode cX4_lastWord 1 = .ok (.iconst 3, 1) := by decide +kernel
theorem dX4_lastWord_2 : decode cX4_lastWord 2 = .ok (.iand, 1) := by decide +kernel
theorem dX4_lastWord_3 : decode cX4_lastWord 3 = .ok (.ireturn, 1) := by decide +kernel
theorem dX4_wordAt_0 : decode cX4_wordAt 0 = .ok (.iload_n 0, 1) := by decide +kernel
theorem dX4_wordAt_1 : decode cX4_wordAt 1 = .ok (.iconst 2, 1) := by decide +kernel
theorem dX4_wordAt_2 : decode cX4_wordAt 2 = .ok (.iload_n 1, 1) := by decide +kernel
theorem dX4_wordAt_3 : decode cX4_wordAt 3 = .ok (.iconst 1, 1) := by decide +kernel
theorem dX4_wordAt_4 : decode cX4_wordAt 4 = .ok (.isub, 1) := by decide +kernel
theorem dX4_wordAt_5 : decode cX4_wordAt 5 = .ok (.iload_n 2, 1) := by decide +kernel
theorem dX4_wordAt_6 : decode cX4_wordAt 6 = .ok (.isub, 1) := by decide +kernel
theorem dX4_wordAt_7 : decode cX4_wordAt 7 = .ok (.imul, 1) := by decide +kernel
theorem dX4_wordAt_8 : decode cX4_wordAt 8 = .ok (.ishr, 1) := by decide +kernel
theorem dX4_wordAt_9 : decode cX4_wordAt 9 = .ok (.iconst 3, 1) := by decide +kernel
theorem dX4_wordAt_10 : decode cX4_wordAt 10 = .ok (.iand, 1) := by decide +kernel
theorem dX4_wordAt_11 : decode cX4_wordAt 11 = .ok (.ireturn, 1) := by decide +kernel
set_option maxRecDepth 20000 in
theorem ggX4_wordOrNone_X4_wordsIn : GoodIn wsX4_wordOrNone wsX4_wordsIn := goodIn_r _ [4] (by decide +kernel) (by decide +kernel)
set_option maxRecDepth 20000 in
theorem gX4_wordOrNone_X4_wordsIn : GoodIn wsX4_wordOrNone (va_wsS RX4 11 yX4_wordsIn wsX4_wordsIn) := goodIn_app (goodIn_of _ (by decide +kernel)) ggX4_wordOrNone_X4_wordsIn
set_option maxRecDepth 20000 in
theorem ggX4_wordOrNone_X4_wordAt : GoodIn wsX4_wordOrNone wsX4_wordAt := goodIn_r _ [7] (by decide +kernel) (by decide +kernel)
set_option maxRecDepth 20000 in
theorem gX4_wordOrNone_X4_wordAt : GoodIn wsX4_wordOrNone (va_wsS RX4 15 yX4_wordAt wsX4_wordAt) := goodIn_app (goodIn_of _ (by decide +kernel)) ggX4_wordOrNone_X4_wordAt
theorem dX4_wordOrNone_0 : decode cX4_wordOrNone 0 = .ok (.iload_n 0, 1) := by decide +kernel
theorem dX4_wordOrNone_1 : decode cX4_wordOrNone 1 = .ok (.invokestatic 11, 3) := by decide +kernel
theorem dX4_wordOrNone_4 : decode cX4_wordOrNone 4 = .ok (.istore_n 2, 1) := by decide +kernel
theorem dX4_wordOrNone_5 : decode cX4_wordOrNone 5 = .ok (.iload_n 1, 1) := by decide +kernel
theorem dX4_wordOrNone_6 : decode cX4_wordOrNone 6 = .ok (.ifCond .lt 8, 3) := by decide +kernel
theorem dX4_wordOrNone_9 : decode cX4_wordOrNone 9 = .ok (.iload_n 1, 1) := by decide +kernel
theorem dX4_wordOrNone_10 : decode cX4_wordOrNone 10 = .ok (.iload_n 2, 1) := by decide +kernel
theorem dX4_wordOrNone_11 : decode cX4_wordOrNone 11 = .ok (.if_icmp .lt 8, 3) := by decide +kernel
theorem dX4_wordOrNone_14 : decode cX4_wordOrNone 14 = .ok (.bipush (-9), 2) := by decide +kernel
theorem dX4_wordOrNone_16 : decode cX4_wordOrNone 16 = .ok (.goto 9, 3) := by decide +kernel
theorem dX4_wordOrNone_19 : decode cX4_wordOrNone 19 = .ok (.iload_n 0, 1) := by decide +kernel
theorem dX4_wordOrNone_20 : decode cX4_wordOrNone 20 = .ok (.iload_n 2, 1) := by decide +kernel
theorem dX4_wordOrNone_21 : decode cX4_wordOrNone 21 = .ok (.iload_n 1, 1) := by decide +kernel
theorem dX4_wordOrNone_22 : decode cX4_wordOrNone 22 = .ok (.invokestatic 15, 3) := by decide +kernel
theorem dX4_wordOrNone_25 : decode cX4_wordOrNone 25 = .ok (.ireturn, 1) := by decide +kernel
theorem dX4_firstOf_0 : decode cX4_firstOf 0 = .ok (.iconst 1, 1) := by decide +kernel
theorem dX4_firstOf_1 : decode cX4_firstOf 1 = .ok (.iconst 2, 1) := by decide +kernel
theorem dX4_firstOf_2 : decode cX4_firstOf 2 = .ok (.iload_n 0, 1) := by decide +kernel
theorem dX4_firstOf_3 : decode cX4_firstOf 3 = .ok (.imul, 1) := by decide +kernel
theorem dX4_firstOf_4 : decode cX4_firstOf 4 = .ok (.ishl, 1) := by decide +kernel
theorem dX4_firstOf_5 : decode cX4_firstOf 5 = .ok (.ireturn, 1) := by decide +kernel
theorem dX4_endOf_0 : decode cX4_endOf 0 = .ok (.iconst 2, 1) := by decide +kernel
theorem dX4_endOf_1 : decode cX4_endOf 1 = .ok (.iconst 2, 1) := by decide +kernel
theorem dX4_endOf_2 : decode cX4_endOf 2 = .ok (.iload_n 0, 1) := by decide +kernel
theorem dX4_endOf_3 : decode cX4_endOf 3 = .ok (.imul, 1) := by decide +kernel
theorem dX4_endOf_4 : decode cX4_endOf 4 = .ok (.ishl, 1) := by decide +kernel
theorem dX4_endOf_5 : decode cX4_endOf 5 = .ok (.ireturn, 1) := by decide +kernel
set_option maxRecDepth 20000 in
theorem ggX4_asFigures_X4_wordsIn : GoodIn wsX4_asFigures wsX4_wordsIn := goodIn_r _ [4] (by decide +kernel) (by decide +kernel)
set_option maxRecDepth 20000 in
theorem gX4_asFigures_X4_wordsIn : GoodIn wsX4_asFigures (va_wsS RX4 11 yX4_wordsIn wsX4_wordsIn) := goodIn_app (goodIn_of _ (by decide +kernel)) ggX4_asFigures_X4_wordsIn
set_option maxRecDepth 20000 in
theorem ggX4_asFigures_X4_wordAt : GoodIn wsX4_asFigures wsX4_wordAt := goodIn_r _ [7] (by decide +kernel) (by decide +kernel)
set_option maxRecDepth 20000 in
theorem gX4_asFigures_X4_wordAt : GoodIn wsX4_asFigures (va_wsS RX4 15 yX4_wordAt wsX4_wordAt) := goodIn_app (goodIn_of _ (by decide +kernel)) ggX4_asFigures_X4_wordAt
theorem dX4_asFigures_0 : decode cX4_asFigures 0 = .ok (.iload_n 0, 1) := by decide +kernel
theorem dX4_asFigures_1 : decode cX4_asFigures 1 = .ok (.invokestatic 11, 3) := by decide +kernel
theorem dX4_asFigures_4 : decode cX4_asFigures 4 = .ok (.istore_n 1, 1) := by decide +kernel
theorem dX4_asFigures_5 : decode cX4_asFigures 5 = .ok (.iconst 0, 1) := by decide +kernel
theorem dX4_asFigures_6 : decode cX4_asFigures 6 = .ok (.istore_n 2, 1) := by decide +kernel
theorem dX4_asFigures_7 : decode cX4_asFigures 7 = .ok (.iconst 0, 1) := by decide +kernel
theorem dX4_asFigures_8 : decode cX4_asFigures 8 = .ok (.istore_n 3, 1) := by decide +kernel
theorem dX4_asFigures_9 : decode cX4_asFigures 9 = .ok (.iload_n 3, 1) := by decide +kernel
theorem dX4_asFigures_10 : decode cX4_asFigures 10 = .ok (.iload_n 1, 1) := by decide +kernel
theorem dX4_asFigures_11 : decode cX4_asFigures 11 = .ok (.if_icmp .ge 23, 3) := by decide +kernel
theorem dX4_asFigures_14 : decode cX4_asFigures 14 = .ok (.bipush 10, 2) := by decide +kernel
theorem dX4_asFigures_16 : decode cX4_asFigures 16 = .ok (.iload_n 2, 1) := by decide +kernel
theorem dX4_asFigures_17 : decode cX4_asFigures 17 = .ok (.imul, 1) := by decide +kernel
theorem dX4_asFigures_18 : decode cX4_asFigures 18 = .ok (.iload_n 0, 1) := by decide +kernel
theorem dX4_asFigures_19 : decode cX4_asFigures 19 = .ok (.iload_n 1, 1) := by decide +kernel
theorem dX4_asFigures_20 : decode cX4_asFigures 20 = .ok (.iload_n 3, 1) := by decide +kernel
theorem dX4_asFigures_21 : decode cX4_asFigures 21 = .ok (.invokestatic 15, 3) := by decide +kernel
theorem dX4_asFigures_24 : decode cX4_asFigures 24 = .ok (.iadd, 1) := by decide +kernel
theorem dX4_asFigures_25 : decode cX4_asFigures 25 = .ok (.iconst 1, 1) := by decide +kernel
theorem dX4_asFigures_26 : decode cX4_asFigures 26 = .ok (.iadd, 1) := by decide +kernel
theorem dX4_asFigures_27 : decode cX4_asFigures 27 = .ok (.istore_n 2, 1) := by decide +kernel
theorem dX4_asFigures_28 : decode cX4_asFigures 28 = .ok (.iinc 3 1, 3) := by decide +kernel
theorem dX4_asFigures_31 : decode cX4_asFigures 31 = .ok (.goto (-22), 3) := by decide +kernel
theorem dX4_asFigures_34 : decode cX4_asFigures 34 = .ok (.iload_n 2, 1) := by decide +kernel
theorem dX4_asFigures_35 : decode cX4_asFigures 35 = .ok (.ireturn, 1) := by decide +kernel
set_option maxRecDepth 20000 in
theorem ggX4_leavesIn_X4_wordsIn : GoodIn wsX4_leavesIn wsX4_wordsIn := goodIn_r _ [4] (by decide +kernel) (by decide +kernel)
set_option maxRecDepth 20000 in
theorem gX4_leavesIn_X4_wordsIn : GoodIn wsX4_leavesIn (va_wsS RX4 11 yX4_wordsIn wsX4_wordsIn) := goodIn_app (goodIn_of _ (by decide +kernel)) ggX4_leavesIn_X4_wordsIn
theorem dX4_leavesIn_0 : decode cX4_leavesIn 0 = .ok (.iload_n 0, 1) := by decide +kernel
theorem dX4_leavesIn_1 : decode cX4_leavesIn 1 = .ok (.invokestatic 11, 3) := by decide +kernel
theorem dX4_leavesIn_4 : decode cX4_leavesIn 4 = .ok (.iconst 1, 1) := by decide +kernel
theorem dX4_leavesIn_5 : decode cX4_leavesIn 5 = .ok (.iadd, 1) := by decide +kernel
theorem dX4_leavesIn_6 : decode cX4_leavesIn 6 = .ok (.iconst 2, 1) := by decide +kernel
theorem dX4_leavesIn_7 : decode cX4_leavesIn 7 = .ok (.idiv, 1) := by decide +kernel
theorem dX4_leavesIn_8 : decode cX4_leavesIn 8 = .ok (.ireturn, 1) := by decide +kernel
set_option maxRecDepth 20000 in
theorem ggX4_withLeaf_X4_wordsIn : GoodIn wsX4_withLeaf wsX4_wordsIn := goodIn_r _ [8] (by decide +kernel) (by decide +kernel)
set_option maxRecDepth 20000 in
theorem gX4_withLeaf_X4_wordsIn : GoodIn wsX4_withLeaf (va_wsS RX4 11 yX4_wordsIn wsX4_wordsIn) := goodIn_app (goodIn_of _ (by decide +kernel)) ggX4_withLeaf_X4_wordsIn
set_option maxRecDepth 20000 in
theorem ggX4_withLeaf_X4_wordAt : GoodIn wsX4_withLeaf wsX4_wordAt := goodIn_r _ [11] (by decide +kernel) (by decide +kernel)
set_option maxRecDepth 20000 in
theorem gX4_withLeaf_X4_wordAt : GoodIn wsX4_withLeaf (va_wsS RX4 15 yX4_wordAt wsX4_wordAt) := goodIn_app (goodIn_of _ (by decide +kernel)) ggX4_withLeaf_X4_wordAt
set_option maxRecDepth 20000 in
theorem ggX4_withLeaf_X4_with : GoodIn wsX4_withLeaf wsX4_with := goodIn_r _ [14] (by decide +kernel) (by decide +kernel)
set_option maxRecDepth 20000 in
theorem gX4_withLeaf_X4_with : GoodIn wsX4_withLeaf (va_wsS RX4 25 yX4_with wsX4_with) := goodIn_app (goodIn_of _ (by decide +kernel)) ggX4_withLeaf_X4_with
theorem dX4_withLeaf_0 : decode cX4_withLeaf 0 = .ok (.iload_n 1, 1) := by decide +kernel
theorem dX4_withLeaf_1 : decode cX4_withLeaf 1 = .ok (.invokestatic 11, 3) := by decide +kernel
theorem dX4_withLeaf_4 : decode cX4_withLeaf 4 = .ok (.istore_n 3, 1) := by decide +kernel
theorem dX4_withLeaf_5 : decode cX4_withLeaf 5 = .ok (.iconst 2, 1) := by decide +kernel
theorem dX4_withLeaf_6 : decode cX4_withLeaf 6 = .ok (.iload_n 2, 1) := by decide +kernel
theorem dX4_withLeaf_7 : decode cX4_withLeaf 7 = .ok (.imul, 1) := by decide +kernel
theorem dX4_withLeaf_8 : decode cX4_withLeaf 8 = .ok (.iconst 2, 1) := by decide +kernel
theorem dX4_withLeaf_9 : decode cX4_withLeaf 9 = .ok (.iadd, 1) := by decide +kernel
theorem dX4_withLeaf_10 : decode cX4_withLeaf 10 = .ok (.iload_n 3, 1) := by decide +kernel
theorem dX4_withLeaf_11 : decode cX4_withLeaf 11 = .ok (.invokestatic 19, 3) := by decide +kernel
theorem dX4_withLeaf_14 : decode cX4_withLeaf 14 = .ok (.istore 4, 2) := by decide +kernel
theorem dX4_withLeaf_16 : decode cX4_withLeaf 16 = .ok (.iload_n 0, 1) := by decide +kernel
theorem dX4_withLeaf_17 : decode cX4_withLeaf 17 = .ok (.istore 5, 2) := by decide +kernel
theorem dX4_withLeaf_19 : decode cX4_withLeaf 19 = .ok (.iconst 2, 1) := by decide +kernel
theorem dX4_withLeaf_20 : decode cX4_withLeaf 20 = .ok (.iload_n 2, 1) := by decide +kernel
theorem dX4_withLeaf_21 : decode cX4_withLeaf 21 = .ok (.imul, 1) := by decide +kernel
theorem dX4_withLeaf_22 : decode cX4_withLeaf 22 = .ok (.istore 6, 2) := by decide +kernel
theorem dX4_withLeaf_24 : decode cX4_withLeaf 24 = .ok (.iload 6, 2) := by decide +kernel
theorem dX4_withLeaf_26 : decode cX4_withLeaf 26 = .ok (.iload 4, 2) := by decide +kernel
theorem dX4_withLeaf_28 : decode cX4_withLeaf 28 = .ok (.if_icmp .ge 23, 3) := by decide +kernel
theorem dX4_withLeaf_31 : decode cX4_withLeaf 31 = .ok (.iload 5, 2) := by decide +kernel
theorem dX4_withLeaf_33 : decode cX4_withLeaf 33 = .ok (.iload_n 1, 1) := by decide +kernel
theorem dX4_withLeaf_34 : decode cX4_withLeaf 34 = .ok (.iload_n 3, 1) := by decide +kernel
theorem dX4_withLeaf_35 : decode cX4_withLeaf 35 = .ok (.iload 6, 2) := by decide +kernel
theorem dX4_withLeaf_37 : decode cX4_withLeaf 37 = .ok (.invokestatic 15, 3) := by decide +kernel
theorem dX4_withLeaf_40 : decode cX4_withLeaf 40 = .ok (.invokestatic 25, 3) := by decide +kernel
theorem dX4_withLeaf_43 : decode cX4_withLeaf 43 = .ok (.istore 5, 2) := by decide +kernel
theorem dX4_withLeaf_45 : decode cX4_withLeaf 45 = .ok (.iinc 6 1, 3) := by decide +kernel
theorem dX4_withLeaf_48 : decode cX4_withLeaf 48 = .ok (.goto (-24), 3) := by decide +kernel
theorem dX4_withLeaf_51 : decode cX4_withLeaf 51 = .ok (.iload 5, 2) := by decide +kernel
theorem dX4_withLeaf_53 : decode cX4_withLeaf 53 = .ok (.ireturn, 1) := by decide +kernel
set_option maxRecDepth 20000 in
theorem ggX5_init_X2_init : GoodIn wsX5_init wsX2_init := goodIn_r _ [28, 29, 2, 3, 20, 30, 48, 49] (by decide +kernel) (by decide +kernel)
set_option maxRecDepth 20000 in
theorem gX5_init_X2_init_n11 : GoodIn wsX5_init (wsX2_init) := ggX5_init_X2_init
set_option maxRecDepth 20000 in
theorem ggX5_init_X1_init : GoodIn wsX5_init wsX1_init := goodIn_r _ [32, 33, 2, 3, 20, 34, 35, 36, 37, 38, 39, 59, 60, 61, 62, 63, 64, 65] (by decide +kernel) (by decide +kernel)
set_option maxRecDepth 20000 in
theorem gX5_init_X1_init_n18 : GoodIn wsX5_init (wsX1_init) := ggX5_init_X1_init
set_option maxRecDepth 20000 in
theorem ggX5_init_X0_init : GoodIn wsX5_init wsX0_init := goodIn_r _ [41, 42, 2, 3, 23, 43, 66, 67] (by decide +kernel) (by decide +kernel)
set_option maxRecDepth 20000 in
theorem gX5_init_X0_init_n25 : GoodIn wsX5_init (wsX0_init) := ggX5_init_X0_init
set_option maxRecDepth 20000 in
theorem ggX5_init_X3_init : GoodIn wsX5_init wsX3_init := goodIn_r _ [45, 46, 2, 3, 23, 47, 68] (by decide +kernel) (by decide +kernel)
set_option maxRecDepth 20000 in
theorem gX5_init_X3_init_n32 : GoodIn wsX5_init (wsX3_init) := ggX5_init_X3_init
theorem dX5_init_0 : decode cX5_init 0 = .ok (.aload_n 0, 1) := by decide +kernel
theorem dX5_init_1 : decode cX5_init 1 = .ok (.invokespecial 3, 3) := by decide +kernel
theorem dX5_init_4 : decode cX5_init 4 = .ok (.aload_n 0, 1) := by decide +kernel
theorem dX5_init_5 : decode cX5_init 5 = .ok (.new 9, 3) := by decide +kernel
theorem dX5_init_8 : decode cX5_init 8 = .ok (.dup, 1) := by decide +kernel
theorem dX5_init_9 : decode cX5_init 9 = .ok (.invokespecial 11, 3) := by decide +kernel
theorem dX5_init_12 : decode cX5_init 12 = .ok (.putfield 12, 3) := by decide +kernel
theorem dX5_init_15 : decode cX5_init 15 = .ok (.aload_n 0, 1) := by decide +kernel
theorem dX5_init_16 : decode cX5_init 16 = .ok (.new 16, 3) := by decide +kernel
theorem dX5_init_19 : decode cX5_init 19 = .ok (.dup, 1) := by decide +kernel
theorem dX5_init_20 : decode cX5_init 20 = .ok (.invokespecial 18, 3) := by decide +kernel
theorem dX5_init_23 : decode cX5_init 23 = .ok (.putfield 19, 3) := by decide +kernel
theorem dX5_init_26 : decode cX5_init 26 = .ok (.aload_n 0, 1) := by decide +kernel
theorem dX5_init_27 : decode cX5_init 27 = .ok (.new 23, 3) := by decide +kernel
theorem dX5_init_30 : decode cX5_init 30 = .ok (.dup, 1) := by decide +kernel
theorem dX5_init_31 : decode cX5_init 31 = .ok (.invokespecial 25, 3) := by decide +kernel
theorem dX5_init_34 : decode cX5_init 34 = .ok (.putfield 26, 3) := by decide +kernel
theorem dX5_init_37 : decode cX5_init 37 = .ok (.aload_n 0, 1) := by decide +kernel
theorem dX5_init_38 : decode cX5_init 38 = .ok (.new 30, 3) := by decide +kernel
theorem dX5_init_41 : decode cX5_init 41 = .ok (.dup, 1) := by decide +kernel
theorem dX5_init_42 : decode cX5_init 42 = .ok (.invokespecial 32, 3) := by decide +kernel
theorem dX5_init_45 : decode cX5_init 45 = .ok (.putfield 33, 3) := by decide +kernel
theorem dX5_init_48 : decode cX5_init 48 = .ok (.aload_n 0, 1) := by decide +kernel
theorem dX5_init_49 : decode cX5_init 49 = .ok (.iconst 4, 1) := by decide +kernel
theorem dX5_init_50 : decode cX5_init 50 = .ok (.newarray .int, 2) := by decide +kernel
theorem dX5_init_52 : decode cX5_init 52 = .ok (.putfield 37, 3) := by decide +kernel
theorem dX5_init_55 : decode cX5_init 55 = .ok (.aload_n 0, 1) := by decide +kernel
theorem dX5_init_56 : decode cX5_init 56 = .ok (.iconst 4, 1) := by decide +kernel
theorem dX5_init_57 : decode cX5_init 57 = .ok (.newarray .int, 2) := by decide +kernel
theorem dX5_init_59 : decode cX5_init 59 = .ok (.putfield 41, 3) := by decide +kernel
theorem dX5_init_62 : decode cX5_init 62 = .ok (.aload_n 0, 1) := by decide +kernel
theorem dX5_init_63 : decode cX5_init 63 = .ok (.iconst 2, 1) := by decide +kernel
theorem dX5_init_64 : decode cX5_init 64 = .ok (.newarray .long, 2) := by decide +kernel
theorem dX5_init_66 : decode cX5_init 66 = .ok (.putfield 44, 3) := by decide +kernel
theorem dX5_init_69 : decode cX5_init 69 = .ok (.aload_n 0, 1) := by decide +kernel
theorem dX5_init_70 : decode cX5_init 70 = .ok (.iconst 1, 1) := by decide +kernel
theorem dX5_init_71 : decode cX5_init 71 = .ok (.putfield 50, 3) := by decide +kernel
theorem dX5_init_74 : decode cX5_init 74 = .ok (.aload_n 0, 1) := by decide +kernel
theorem dX5_init_75 : decode cX5_init 75 = .ok (.lconst 0, 1) := by decide +kernel
theorem dX5_init_76 : decode cX5_init 76 = .ok (.putfield 54, 3) := by decide +kernel
theorem dX5_init_79 : decode cX5_init 79 = .ok (.return_, 1) := by decide +kernel
set_option maxRecDepth 20000 in
theorem ggX5_write_X2_add : GoodIn wsX5_write wsX2_add := goodIn_r _ [7, 8, 9, 19, 20] (by decide +kernel) (by decide +kernel)
set_option maxRecDepth 20000 in
theorem gX5_write_X2_add : GoodIn wsX5_write (wsV RX5 61 RX2 yX2_add wsX2_add) := goodIn_app (goodIn_of _ (by decide +kernel)) ggX5_write_X2_add
theorem dX5_write_0 : decode cX5_write 0 = .ok (.iload_n 1, 1) := by decide +kernel
theorem dX5_write_1 : decode cX5_write 1 = .ok (.ifCond .lt 10, 3) := by decide +kernel
theorem dX5_write_4 : decode cX5_write 4 = .ok (.iload_n 1, 1) := by decide +kernel
theorem dX5_write_5 : decode cX5_write 5 = .ok (.sipush 255, 3) := by decide +kernel
theorem dX5_write_8 : decode cX5_write 8 = .ok (.if_icmp .le 6, 3) := by decide +kernel
theorem dX5_write_11 : decode cX5_write 11 = .ok (.bipush (-2), 2) := by decide +kernel
theorem dX5_write_13 : decode cX5_write 13 = .ok (.ireturn, 1) := by decide +kernel
theorem dX5_write_14 : decode cX5_write 14 = .ok (.aload_n 0, 1) := by decide +kernel
theorem dX5_write_15 : decode cX5_write 15 = .ok (.getfield 12, 3) := by decide +kernel
theorem dX5_write_18 : decode cX5_write 18 = .ok (.getfield 58, 3) := by decide +kernel
theorem dX5_write_21 : decode cX5_write 21 = .ok (.bipush 32, 2) := by decide +kernel
theorem dX5_write_23 : decode cX5_write 23 = .ok (.if_icmp .lt 6, 3) := by decide +kernel
theorem dX5_write_26 : decode cX5_write 26 = .ok (.bipush (-4), 2) := by decide +kernel
theorem dX5_write_28 : decode cX5_write 28 = .ok (.ireturn, 1) := by decide +kernel
theorem dX5_write_29 : decode cX5_write 29 = .ok (.aload_n 0, 1) := by decide +kernel
theorem dX5_write_30 : decode cX5_write 30 = .ok (.getfield 12, 3) := by decide +kernel
theorem dX5_write_33 : decode cX5_write 33 = .ok (.iload_n 1, 1) := by decide +kernel
theorem dX5_write_34 : decode cX5_write 34 = .ok (.invokevirtual 61, 3) := by decide +kernel
theorem dX5_write_37 : decode cX5_write 37 = .ok (.aload_n 0, 1) := by decide +kernel
theorem dX5_write_38 : decode cX5_write 38 = .ok (.getfield 12, 3) := by decide +kernel
theorem dX5_write_41 : decode cX5_write 41 = .ok (.getfield 58, 3) := by decide +kernel
theorem dX5_write_44 : decode cX5_write 44 = .ok (.ireturn, 1) := by decide +kernel
theorem dX5_wipe_0 : decode cX5_wipe 0 = .ok (.aload_n 0, 1) := by decide +kernel
theorem dX5_wipe_1 : decode cX5_wipe 1 = .ok (.getfield 12, 3) := by decide +kernel
theorem dX5_wipe_4 : decode cX5_wipe 4 = .ok (.getfield 58, 3) := by decide +kernel
theorem dX5_wipe_7 : decode cX5_wipe 7 = .ok (.istore_n 1, 1) := by decide +kernel
theorem dX5_wipe_8 : decode cX5_wipe 8 = .ok (.aload_n 0, 1) := by decide +kernel
theorem dX5_wipe_9 : decode cX5_wipe 9 = .ok (.getfield 12, 3) := by decide +kernel
theorem dX5_wipe_12 : decode cX5_wipe 12 = .ok (.iconst 0, 1) := by decide +kernel
theorem dX5_wipe_13 : decode cX5_wipe 13 = .ok (.putfield 58, 3) := by decide +kernel
theorem dX5_wipe_16 : decode cX5_wipe 16 = .ok (.iload_n 1, 1) := by decide +kernel
theorem dX5_wipe_17 : decode cX5_wipe 17 = .ok (.ireturn, 1) := by decide +kernel
set_option maxRecDepth 20000 in
theorem ggX5_fault_X2_firstFault : GoodIn wsX5_fault wsX2_firstFault := goodIn_r _ [6, 7, 8, 9, 10, 5, 11, 12, 13, 14, 15, 16, 17, 18, 28, 29] (by decide +kernel) (by decide +kernel)
set_option maxRecDepth 20000 in
theorem gX5_fault_X2_firstFault : GoodIn wsX5_fault (wsV RX5 65 RX2 yX2_firstFault wsX2_firstFault) := goodIn_app (goodIn_of _ (by decide +kernel)) ggX5_fault_X2_firstFault
theorem dX5_fault_0 : decode cX5_fault 0 = .ok (.aload_n 0, 1) := by decide +kernel
theorem dX5_fault_1 : decode cX5_fault 1 = .ok (.getfield 12, 3) := by decide +kernel
theorem dX5_fault_4 : decode cX5_fault 4 = .ok (.invokevirtual 65, 3) := by decide +kernel
theorem dX5_fault_7 : decode cX5_fault 7 = .ok (.ireturn, 1) := by decide +kernel
set_option maxRecDepth 20000 in
theorem ggX5_court_X2_firstFault : GoodIn wsX5_court wsX2_firstFault := goodIn_r _ [13, 14, 15, 16, 17, 12, 18, 19, 20, 21, 22, 23, 24, 25, 77, 78] (by decide +kernel) (by decide +kernel)
set_option maxRecDepth 20000 in
theorem gX5_court_X2_firstFault : GoodIn wsX5_court (wsV RX5 65 RX2 yX2_firstFault wsX2_firstFault) := goodIn_app (goodIn_of _ (by decide +kernel)) ggX5_court_X2_firstFault
set_option maxRecDepth 20000 in
theorem ggX5_court_X1_readFrom : GoodIn wsX5_court wsX1_readFrom := goodIn_r _ [30, 31, 32, 33, 34, 35, 36, 37, 38, 39, 40, 41, 42, 43, 12, 44, 14, 45, 46, 47, 48, 19, 49, 50, 29, 51, 70, 71, 72, 73, 74, 75, 76, 77, 78] (by decide +kernel) (by decide +kernel)
set_option maxRecDepth 20000 in
theorem gX5_court_X1_readFrom : GoodIn wsX5_court (wsV RX5 69 RX1 yX1_readFrom wsX1_readFrom) := goodIn_app (goodIn_of _ (by decide +kernel)) ggX5_court_X1_readFrom
set_option maxRecDepth 20000 in
theorem ggX5_court_J7_fill_53178 : GoodIn wsX5_court wsJ7_fill_53178 := goodIn_r _ [55] (by decide +kernel) (by decide +kernel)
set_option maxRecDepth 20000 in
theorem gX5_court_J7_fill_53178 : GoodIn wsX5_court (va_wsS RX5 74 yJ7_fill_53178 wsJ7_fill_53178) := goodIn_app (goodIn_of _ (by decide +kernel)) ggX5_court_J7_fill_53178
set_option maxRecDepth 20000 in
theorem ggX5_court_J7_fill_d0a16 : GoodIn wsX5_court wsJ7_fill_d0a16 := goodIn_r _ [58] (by decide +kernel) (by decide +kernel)
set_option maxRecDepth 20000 in
theorem gX5_court_J7_fill_d0a16 : GoodIn wsX5_court (va_wsS RX5 80 yJ7_fill_d0a16 wsJ7_fill_d0a16) := goodIn_app (goodIn_of _ (by decide +kernel)) ggX5_court_J7_fill_d0a16
theorem dX5_court_0 : decode cX5_court 0 = .ok (.aload_n 0, 1) := by decide +kernel
theorem dX5_court_1 : decode cX5_court 1 = .ok (.getfield 12, 3) := by decide +kernel
theorem dX5_court_4 : decode cX5_court 4 = .ok (.invokevirtual 65, 3) := by decide +kernel
theorem dX5_court_7 : decode cX5_court 7 = .ok (.bipush (-9), 2) := by decide +kernel
theorem dX5_court_9 : decode cX5_court 9 = .ok (.if_icmp .eq 6, 3) := by decide +kernel
theorem dX5_court_12 : decode cX5_court 12 = .ok (.bipush (-3), 2) := by decide +kernel
theorem dX5_court_14 : decode cX5_court 14 = .ok (.ireturn, 1) := by decide +kernel
theorem dX5_court_15 : decode cX5_court 15 = .ok (.aload_n 0, 1) := by decide +kernel
theorem dX5_court_16 : decode cX5_court 16 = .ok (.getfield 19, 3) := by decide +kernel
theorem dX5_court_19 : decode cX5_court 19 = .ok (.aload_n 0, 1) := by decide +kernel
theorem dX5_court_20 : decode cX5_court 20 = .ok (.getfield 12, 3) := by decide +kernel
theorem dX5_court_23 : decode cX5_court 23 = .ok (.invokevirtual 69, 3) := by decide +kernel
theorem dX5_court_26 : decode cX5_court 26 = .ok (.aload_n 0, 1) := by decide +kernel
theorem dX5_court_27 : decode cX5_court 27 = .ok (.iconst 1, 1) := by decide +kernel
theorem dX5_court_28 : decode cX5_court 28 = .ok (.putfield 50, 3) := by decide +kernel
theorem dX5_court_31 : decode cX5_court 31 = .ok (.aload_n 0, 1) := by decide +kernel
theorem dX5_court_32 : decode cX5_court 32 = .ok (.getfield 26, 3) := by decide +kernel
theorem dX5_court_35 : decode cX5_court 35 = .ok (.iconst 0, 1) := by decide +kernel
theorem dX5_court_36 : decode cX5_court 36 = .ok (.putfield 73, 3) := by decide +kernel
theorem dX5_court_39 : decode cX5_court 39 = .ok (.aload_n 0, 1) := by decide +kernel
theorem dX5_court_40 : decode cX5_court 40 = .ok (.getfield 37, 3) := by decide +kernel
theorem dX5_court_43 : decode cX5_court 43 = .ok (.iconst 0, 1) := by decide +kernel
theorem dX5_court_44 : decode cX5_court 44 = .ok (.invokestatic 74, 3) := by decide +kernel
theorem dX5_court_47 : decode cX5_court 47 = .ok (.aload_n 0, 1) := by decide +kernel
theorem dX5_court_48 : decode cX5_court 48 = .ok (.getfield 44, 3) := by decide +kernel
theorem dX5_court_51 : decode cX5_court 51 = .ok (.lconst 0, 1) := by decide +kernel
theorem dX5_court_52 : decode cX5_court 52 = .ok (.invokestatic 80, 3) := by decide +kernel
theorem dX5_court_55 : decode cX5_court 55 = .ok (.aload_n 0, 1) := by decide +kernel
theorem dX5_court_56 : decode cX5_court 56 = .ok (.getfield 19, 3) := by decide +kernel
theorem dX5_court_59 : decode cX5_court 59 = .ok (.getfield 83, 3) := by decide +kernel
theorem dX5_court_62 : decode cX5_court 62 = .ok (.ireturn, 1) := by decide +kernel
set_option maxRecDepth 20000 in
theorem ggX5_clerk_X1_has : GoodIn wsX5_clerk wsX1_has := goodIn_r _ [11, 12, 72, 73, 74, 75, 76, 77, 78] (by decide +kernel) (by decide +kernel)
set_option maxRecDepth 20000 in
theorem gX5_clerk_X1_has : GoodIn wsX5_clerk (wsV RX5 84 RX1 yX1_has wsX1_has) := goodIn_app (goodIn_of _ (by decide +kernel)) ggX5_clerk_X1_has
set_option maxRecDepth 20000 in
theorem ggX5_clerk_X5_lessOneOrNone : GoodIn wsX5_clerk wsX5_lessOneOrNone := goodIn_r _ [16] (by decide +kernel) (by decide +kernel)
set_option maxRecDepth 20000 in
theorem gX5_clerk_X5_lessOneOrNone : GoodIn wsX5_clerk (va_wsS RX5 91 yX5_lessOneOrNone wsX5_lessOneOrNone) := goodIn_app (goodIn_of _ (by decide +kernel)) ggX5_clerk_X5_lessOneOrNone
set_option maxRecDepth 20000 in
theorem ggX5_clerk_X5_pageNow : GoodIn wsX5_clerk wsX5_pageNow := goodIn_r _ [20, 1, 21, 22, 23, 24, 25, 10, 26, 12, 27, 28, 29, 30, 31, 32, 33, 34, 35, 36, 37, 38, 39, 40, 41, 42, 43, 44, 45, 46, 47, 48, 49, 50, 51, 52, 53, 54, 55, 56, 63, 64, 65, 66, 67, 68, 69, 70, 71, 72, 73, 74, 75, 76, 77, 78] (by decide +kernel) (by decide +kernel)
set_option maxRecDepth 20000 in
theorem gX5_clerk_X5_pageNow : GoodIn wsX5_clerk (wsV RX5 107 RX5 yX5_pageNow wsX5_pageNow) := goodIn_app (goodIn_of _ (by decide +kernel)) ggX5_clerk_X5_pageNow
set_option maxRecDepth 20000 in
theorem ggX5_clerk_X4_wordsIn : GoodIn wsX5_clerk wsX4_wordsIn := goodIn_r _ [47] (by decide +kernel) (by decide +kernel)
set_option maxRecDepth 20000 in
theorem gX5_clerk_X4_wordsIn : GoodIn wsX5_clerk (va_wsS RX5 110 yX4_wordsIn wsX4_wordsIn) := goodIn_app (goodIn_of _ (by decide +kernel)) ggX5_clerk_X4_wordsIn
set_option maxRecDepth 20000 in
theorem ggX5_clerk_X5_wordsTold : GoodIn wsX5_clerk wsX5_wordsTold := goodIn_r _ [61, 62, 57, 45, 46, 47, 63, 64, 65, 66, 67, 68, 69, 70, 71] (by decide +kernel) (by decide +kernel)
set_option maxRecDepth 20000 in
theorem gX5_clerk_X5_wordsTold : GoodIn wsX5_clerk (wsV RX5 113 RX5 yX5_wordsTold wsX5_wordsTold) := goodIn_app (goodIn_of _ (by decide +kernel)) ggX5_clerk_X5_wordsTold
theorem dX5_clerk_0 : decode cX5_clerk 0 = .ok (.aload_n 0, 1) := by decide +kernel
theorem dX5_clerk_1 : decode cX5_clerk 1 = .ok (.getfield 19, 3) := by decide +kernel
theorem dX5_clerk_4 : decode cX5_clerk 4 = .ok (.iload_n 1, 1) := by decide +kernel
theorem dX5_clerk_5 : decode cX5_clerk 5 = .ok (.invokevirtual 84, 3) := by decide +kernel
theorem dX5_clerk_8 : decode cX5_clerk 8 = .ok (.ifCond .ne 5, 3) := by decide +kernel
theorem dX5_clerk_11 : decode cX5_clerk 11 = .ok (.iconst (-1), 1) := by decide +kernel
theorem dX5_clerk_12 : decode cX5_clerk 12 = .ok (.ireturn, 1) := by decide +kernel
theorem dX5_clerk_13 : decode cX5_clerk 13 = .ok (.iload_n 2, 1) := by decide +kernel
theorem dX5_clerk_14 : decode cX5_clerk 14 = .ok (.tableswitch 119 0 6 #[42, 55, 68, 81, 91, 104, 113], 42) := by decide +kernel
theorem dX5_clerk_56 : decode cX5_clerk 56 = .ok (.aload_n 0, 1) := by decide +kernel
theorem dX5_clerk_57 : decode cX5_clerk 57 = .ok (.getfield 19, 3) := by decide +kernel
theorem dX5_clerk_60 : decode cX5_clerk 60 = .ok (.getfield 88, 3) := by decide +kernel
theorem dX5_clerk_63 : decode cX5_clerk 63 = .ok (.iload_n 1, 1) := by decide +kernel
theorem dX5_clerk_64 : decode cX5_clerk 64 = .ok (.iaload, 1) := by decide +kernel
theorem dX5_clerk_65 : decode cX5_clerk 65 = .ok (.invokestatic 91, 3) := by decide +kernel
theorem dX5_clerk_68 : decode cX5_clerk 68 = .ok (.ireturn, 1) := by decide +kernel
theorem dX5_clerk_69 : decode cX5_clerk 69 = .ok (.aload_n 0, 1) := by decide +kernel
theorem dX5_clerk_70 : decode cX5_clerk 70 = .ok (.getfield 19, 3) := by decide +kernel
theorem dX5_clerk_73 : decode cX5_clerk 73 = .ok (.getfield 95, 3) := by decide +kernel
theorem dX5_clerk_76 : decode cX5_clerk 76 = .ok (.iload_n 1, 1) := by decide +kernel
theorem dX5_clerk_77 : decode cX5_clerk 77 = .ok (.iaload, 1) := by decide +kernel
theorem dX5_clerk_78 : decode cX5_clerk 78 = .ok (.invokestatic 91, 3) := by decide +kernel
theorem dX5_clerk_81 : decode cX5_clerk 81 = .ok (.ireturn, 1) := by decide +kernel
theorem dX5_clerk_82 : decode cX5_clerk 82 = .ok (.aload_n 0, 1) := by decide +kernel
theorem dX5_clerk_83 : decode cX5_clerk 83 = .ok (.getfield 19, 3) := by decide +kernel
theorem dX5_clerk_86 : decode cX5_clerk 86 = .ok (.getfield 98, 3) := by decide +kernel
theorem dX5_clerk_89 : decode cX5_clerk 89 = .ok (.iload_n 1, 1) := by decide +kernel
theorem dX5_clerk_90 : decode cX5_clerk 90 = .ok (.iaload, 1) := by decide +kernel
theorem dX5_clerk_91 : decode cX5_clerk 91 = .ok (.invokestatic 91, 3) := by decide +kernel
theorem dX5_clerk_94 : decode cX5_clerk 94 = .ok (.ireturn, 1) := by decide +kernel
theorem dX5_clerk_95 : decode cX5_clerk 95 = .ok (.aload_n 0, 1) := by decide +kernel
theorem dX5_clerk_96 : decode cX5_clerk 96 = .ok (.getfield 19, 3) := by decide +kernel
theorem dX5_clerk_99 : decode cX5_clerk 99 = .ok (.getfield 101, 3) := by decide +kernel
theorem dX5_clerk_102 : decode cX5_clerk 102 = .ok (.iload_n 1, 1) := by decide +kernel
theorem dX5_clerk_103 : decode cX5_clerk 103 = .ok (.iaload, 1) := by decide +kernel
theorem dX5_clerk_104 : decode cX5_clerk 104 = .ok (.ireturn, 1) := by decide +kernel
theorem dX5_clerk_105 : decode cX5_clerk 105 = .ok (.aload_n 0, 1) := by decide +kernel
theorem dX5_clerk_106 : decode cX5_clerk 106 = .ok (.getfield 19, 3) := by decide +kernel
theorem dX5_clerk_109 : decode cX5_clerk 109 = .ok (.getfield 104, 3) := by decide +kernel
theorem dX5_clerk_112 : decode cX5_clerk 112 = .ok (.iload_n 1, 1) := by decide +kernel
theorem dX5_clerk_113 : decode cX5_clerk 113 = .ok (.iaload, 1) := by decide +kernel
theorem dX5_clerk_114 : decode cX5_clerk 114 = .ok (.invokestatic 91, 3) := by decide +kernel
theorem dX5_clerk_117 : decode cX5_clerk 117 = .ok (.ireturn, 1) := by decide +kernel
theorem dX5_clerk_118 : decode cX5_clerk 118 = .ok (.aload_n 0, 1) := by decide +kernel
theorem dX5_clerk_119 : decode cX5_clerk 119 = .ok (.iload_n 1, 1) := by decide +kernel
theorem dX5_clerk_120 : decode cX5_clerk 120 = .ok (.invokevirtual 107, 3) := by decide +kernel
theorem dX5_clerk_123 : decode cX5_clerk 123 = .ok (.invokestatic 110, 3) := by decide +kernel
theorem dX5_clerk_126 : decode cX5_clerk 126 = .ok (.ireturn, 1) := by decide +kernel
theorem dX5_clerk_127 : decode cX5_clerk 127 = .ok (.aload_n 0, 1) := by decide +kernel
theorem dX5_clerk_128 : decode cX5_clerk 128 = .ok (.iload_n 1, 1) := by decide +kernel
theorem dX5_clerk_129 : decode cX5_clerk 129 = .ok (.invokevirtual 113, 3) := by decide +kernel
theorem dX5_clerk_132 : decode cX5_clerk 132 = .ok (.ireturn, 1) := by decide +kernel
theorem dX5_clerk_133 : decode cX5_clerk 133 = .ok (.bipush (-2), 2) := by decide +kernel
theorem dX5_clerk_135 : decode cX5_clerk 135 = .ok (.ireturn, 1) := by decide +kernel
set_option maxRecDepth 20000 in
theorem ggX5_page_X1_has : GoodIn wsX5_page wsX1_has := goodIn_r _ [6, 7, 63, 64, 65, 66, 67, 68, 69] (by decide +kernel) (by decide +kernel)
set_option maxRecDepth 20000 in
theorem gX5_page_X1_has : GoodIn wsX5_page (wsV RX5 84 RX1 yX1_has wsX1_has) := goodIn_app (goodIn_of _ (by decide +kernel)) ggX5_page_X1_has
set_option maxRecDepth 20000 in
theorem ggX5_page_X5_pageNow : GoodIn wsX5_page wsX5_pageNow := goodIn_r _ [12, 1, 13, 14, 15, 16, 17, 5, 18, 7, 19, 20, 21, 22, 23, 24, 25, 26, 27, 28, 29, 30, 31, 32, 33, 34, 35, 36, 37, 38, 39, 40, 41, 42, 43, 44, 45, 46, 47, 48, 54, 55, 56, 57, 58, 59, 60, 61, 62, 63, 64, 65, 66, 67, 68, 69] (by decide +kernel) (by decide +kernel)
set_option maxRecDepth 20000 in
theorem gX5_page_X5_pageNow : GoodIn wsX5_page (wsV RX5 107 RX5 yX5_pageNow wsX5_pageNow) := goodIn_app (goodIn_of _ (by decide +kernel)) ggX5_page_X5_pageNow
set_option maxRecDepth 20000 in
theorem ggX5_page_X4_wordOrNone : GoodIn wsX5_page wsX4_wordOrNone := goodIn_r _ [51, 52, 37, 38, 39, 53, 41, 42] (by decide +kernel) (by decide +kernel)
set_option maxRecDepth 20000 in
theorem gX5_page_X4_wordOrNone : GoodIn wsX5_page (va_wsS RX5 116 yX4_wordOrNone wsX4_wordOrNone) := goodIn_app (goodIn_of _ (by decide +kernel)) ggX5_page_X4_wordOrNone
theorem dX5_page_0 : decode cX5_page 0 = .ok (.aload_n 0, 1) := by decide +kernel
theorem dX5_page_1 : decode cX5_page 1 = .ok (.getfield 19, 3) := by decide +kernel
theorem dX5_page_4 : decode cX5_page 4 = .ok (.iload_n 1, 1) := by decide +kernel
theorem dX5_page_5 : decode cX5_page 5 = .ok (.invokevirtual 84, 3) := by decide +kernel
theorem dX5_page_8 : decode cX5_page 8 = .ok (.ifCond .ne 5, 3) := by decide +kernel
theorem dX5_page_11 : decode cX5_page 11 = .ok (.iconst (-1), 1) := by decide +kernel
theorem dX5_page_12 : decode cX5_page 12 = .ok (.ireturn, 1) := by decide +kernel
theorem dX5_page_13 : decode cX5_page 13 = .ok (.aload_n 0, 1) := by decide +kernel
theorem dX5_page_14 : decode cX5_page 14 = .ok (.iload_n 1, 1) := by decide +kernel
theorem dX5_page_15 : decode cX5_page 15 = .ok (.invokevirtual 107, 3) := by decide +kernel
theorem dX5_page_18 : decode cX5_page 18 = .ok (.iload_n 2, 1) := by decide +kernel
theorem dX5_page_19 : decode cX5_page 19 = .ok (.invokestatic 116, 3) := by decide +kernel
theorem dX5_page_22 : decode cX5_page 22 = .ok (.ireturn, 1) := by decide +kernel
set_option maxRecDepth 20000 in
theorem ggX5_trial_X4_wordOrNone : GoodIn wsX5_trial wsX4_wordOrNone := goodIn_r _ [5, 6, 7, 4, 8, 9, 10, 11] (by decide +kernel) (by decide +kernel)
set_option maxRecDepth 20000 in
theorem gX5_trial_X4_wordOrNone : GoodIn wsX5_trial (va_wsS RX5 116 yX4_wordOrNone wsX4_wordOrNone) := goodIn_app (goodIn_of _ (by decide +kernel)) ggX5_trial_X4_wordOrNone
theorem dX5_trial_0 : decode cX5_trial 0 = .ok (.aload_n 0, 1) := by decide +kernel
theorem dX5_trial_1 : decode cX5_trial 1 = .ok (.getfield 50, 3) := by decide +kernel
theorem dX5_trial_4 : decode cX5_trial 4 = .ok (.iload_n 1, 1) := by decide +kernel
theorem dX5_trial_5 : decode cX5_trial 5 = .ok (.invokestatic 116, 3) := by decide +kernel
theorem dX5_trial_8 : decode cX5_trial 8 = .ok (.ireturn, 1) := by decide +kernel
set_option maxRecDepth 20000 in
theorem ggX5_speak_X5_isWord : GoodIn wsX5_speak wsX5_isWord := goodIn_r _ [6] (by decide +kernel) (by decide +kernel)
set_option maxRecDepth 20000 in
theorem gX5_speak_X5_isWord : GoodIn wsX5_speak (va_wsS RX5 120 yX5_isWord wsX5_isWord) := goodIn_app (goodIn_of _ (by decide +kernel)) ggX5_speak_X5_isWord
set_option maxRecDepth 20000 in
theorem ggX5_speak_X4_wordsIn : GoodIn wsX5_speak wsX4_wordsIn := goodIn_r _ [10] (by decide +kernel) (by decide +kernel)
set_option maxRecDepth 20000 in
theorem gX5_speak_X4_wordsIn : GoodIn wsX5_speak (va_wsS RX5 110 yX4_wordsIn wsX4_wordsIn) := goodIn_app (goodIn_of _ (by decide +kernel)) ggX5_speak_X4_wordsIn
set_option maxRecDepth 20000 in
theorem ggX5_speak_X5_stateNow : GoodIn wsX5_speak wsX5_stateNow := goodIn_r _ [14, 1, 15, 16, 17, 18, 19, 20, 21, 22, 23, 38, 39, 40, 41, 42, 43, 44, 45, 46, 47, 48, 49, 50, 51, 52, 53] (by decide +kernel) (by decide +kernel)
set_option maxRecDepth 20000 in
theorem gX5_speak_X5_stateNow : GoodIn wsX5_speak (wsV RX5 123 RX5 yX5_stateNow wsX5_stateNow) := goodIn_app (goodIn_of _ (by decide +kernel)) ggX5_speak_X5_stateNow
set_option maxRecDepth 20000 in
theorem ggX5_speak_X0_remember : GoodIn wsX5_speak wsX0_remember := goodIn_r _ [28, 29, 30, 31, 32, 33, 34, 54, 55] (by decide +kernel) (by decide +kernel)
set_option maxRecDepth 20000 in
theorem gX5_speak_X0_remember : GoodIn wsX5_speak (wsV RX5 127 RX0 yX0_remember wsX0_remember) := goodIn_app (goodIn_of _ (by decide +kernel)) ggX5_speak_X0_remember
set_option maxRecDepth 20000 in
theorem ggX5_speak_X4_with : GoodIn wsX5_speak wsX4_with := goodIn_r _ [37] (by decide +kernel) (by decide +kernel)
set_option maxRecDepth 20000 in
theorem gX5_speak_X4_with : GoodIn wsX5_speak (va_wsS RX5 131 yX4_with wsX4_with) := goodIn_app (goodIn_of _ (by decide +kernel)) ggX5_speak_X4_with
theorem dX5_speak_0 : decode cX5_speak 0 = .ok (.iload_n 1, 1) := by decide +kernel
theorem dX5_speak_1 : decode cX5_speak 1 = .ok (.invokestatic 120, 3) := by decide +kernel
theorem dX5_speak_4 : decode cX5_speak 4 = .ok (.ifCond .ne 6, 3) := by decide +kernel
theorem dX5_speak_7 : decode cX5_speak 7 = .ok (.bipush (-2), 2) := by decide +kernel
theorem dX5_speak_9 : decode cX5_speak 9 = .ok (.ireturn, 1) := by decide +kernel
theorem dX5_speak_10 : decode cX5_speak 10 = .ok (.aload_n 0, 1) := by decide +kernel
theorem dX5_speak_11 : decode cX5_speak 11 = .ok (.getfield 50, 3) := by decide +kernel
theorem dX5_speak_14 : decode cX5_speak 14 = .ok (.invokestatic 110, 3) := by decide +kernel
theorem dX5_speak_17 : decode cX5_speak 17 = .ok (.bipush 6, 2) := by decide +kernel
theorem dX5_speak_19 : decode cX5_speak 19 = .ok (.if_icmp .lt 6, 3) := by decide +kernel
theorem dX5_speak_22 : decode cX5_speak 22 = .ok (.bipush (-4), 2) := by decide +kernel
theorem dX5_speak_24 : decode cX5_speak 24 = .ok (.ireturn, 1) := by decide +kernel
theorem dX5_speak_25 : decode cX5_speak 25 = .ok (.aload_n 0, 1) := by decide +kernel
theorem dX5_speak_26 : decode cX5_speak 26 = .ok (.getfield 26, 3) := by decide +kernel
theorem dX5_speak_29 : decode cX5_speak 29 = .ok (.aload_n 0, 1) := by decide +kernel
theorem dX5_speak_30 : decode cX5_speak 30 = .ok (.invokevirtual 123, 3) := by decide +kernel
theorem dX5_speak_33 : decode cX5_speak 33 = .ok (.invokevirtual 127, 3) := by decide +kernel
theorem dX5_speak_36 : decode cX5_speak 36 = .ok (.aload_n 0, 1) := by decide +kernel
theorem dX5_speak_37 : decode cX5_speak 37 = .ok (.aload_n 0, 1) := by decide +kernel
theorem dX5_speak_38 : decode cX5_speak 38 = .ok (.getfield 50, 3) := by decide +kernel
theorem dX5_speak_41 : decode cX5_speak 41 = .ok (.iload_n 1, 1) := by decide +kernel
theorem dX5_speak_42 : decode cX5_speak 42 = .ok (.invokestatic 131, 3) := by decide +kernel
theorem dX5_speak_45 : decode cX5_speak 45 = .ok (.putfield 50, 3) := by decide +kernel
theorem dX5_speak_48 : decode cX5_speak 48 = .ok (.aload_n 0, 1) := by decide +kernel
theorem dX5_speak_49 : decode cX5_speak 49 = .ok (.getfield 50, 3) := by decide +kernel
theorem dX5_speak_52 : decode cX5_speak 52 = .ok (.invokestatic 110, 3) := by decide +kernel
theorem dX5_speak_55 : decode cX5_speak 55 = .ok (.ireturn, 1) := by decide +kernel
set_option maxRecDepth 20000 in
theorem ggX5_strike_X5_stateNow : GoodIn wsX5_strike wsX5_stateNow := goodIn_r _ [7, 1, 8, 9, 10, 11, 12, 13, 14, 15, 16, 35, 36, 37, 38, 39, 40, 41, 42, 43, 44, 45, 46, 47, 48, 49, 50] (by decide +kernel) (by decide +kernel)
set_option maxRecDepth 20000 in
theorem gX5_strike_X5_stateNow : GoodIn wsX5_strike (wsV RX5 123 RX5 yX5_stateNow wsX5_stateNow) := goodIn_app (goodIn_of _ (by decide +kernel)) ggX5_strike_X5_stateNow
set_option maxRecDepth 20000 in
theorem ggX5_strike_X0_remember : GoodIn wsX5_strike wsX0_remember := goodIn_r _ [21, 22, 23, 24, 25, 26, 27, 51, 52] (by decide +kernel) (by decide +kernel)
set_option maxRecDepth 20000 in
theorem gX5_strike_X0_remember : GoodIn wsX5_strike (wsV RX5 127 RX0 yX0_remember wsX0_remember) := goodIn_app (goodIn_of _ (by decide +kernel)) ggX5_strike_X0_remember
set_option maxRecDepth 20000 in
theorem ggX5_strike_X4_lastWord : GoodIn wsX5_strike wsX4_lastWord := goodIn_r _ [31] (by decide +kernel) (by decide +kernel)
set_option maxRecDepth 20000 in
theorem gX5_strike_X4_lastWord : GoodIn wsX5_strike (va_wsS RX5 134 yX4_lastWord wsX4_lastWord) := goodIn_app (goodIn_of _ (by decide +kernel)) ggX5_strike_X4_lastWord
set_option maxRecDepth 20000 in
theorem ggX5_strike_X4_withoutLast : GoodIn wsX5_strike wsX4_withoutLast := goodIn_r _ [34] (by decide +kernel) (by decide +kernel)
set_option maxRecDepth 20000 in
theorem gX5_strike_X4_withoutLast : GoodIn wsX5_strike (va_wsS RX5 137 yX4_withoutLast wsX4_withoutLast) := goodIn_app (goodIn_of _ (by decide +kernel)) ggX5_strike_X4_withoutLast
theorem dX5_strike_0 : decode cX5_strike 0 = .ok (.aload_n 0, 1) := by decide +kernel
theorem dX5_strike_1 : decode cX5_strike 1 = .ok (.getfield 50, 3) := by decide +kernel
theorem dX5_strike_4 : decode cX5_strike 4 = .ok (.iconst 1, 1) := by decide +kernel
theorem dX5_strike_5 : decode cX5_strike 5 = .ok (.if_icmp .ne 6, 3) := by decide +kernel
theorem dX5_strike_8 : decode cX5_strike 8 = .ok (.bipush (-3), 2) := by decide +kernel
theorem dX5_strike_10 : decode cX5_strike 10 = .ok (.ireturn, 1) := by decide +kernel
theorem dX5_strike_11 : decode cX5_strike 11 = .ok (.aload_n 0, 1) := by decide +kernel
theorem dX5_strike_12 : decode cX5_strike 12 = .ok (.getfield 26, 3) := by decide +kernel
theorem dX5_strike_15 : decode cX5_strike 15 = .ok (.aload_n 0, 1) := by decide +kernel
theorem dX5_strike_16 : decode cX5_strike 16 = .ok (.invokevirtual 123, 3) := by decide +kernel
theorem dX5_strike_19 : decode cX5_strike 19 = .ok (.invokevirtual 127, 3) := by decide +kernel
theorem dX5_strike_22 : decode cX5_strike 22 = .ok (.aload_n 0, 1) := by decide +kernel
theorem dX5_strike_23 : decode cX5_strike 23 = .ok (.getfield 50, 3) := by decide +kernel
theorem dX5_strike_26 : decode cX5_strike 26 = .ok (.invokestatic 134, 3) := by decide +kernel
theorem dX5_strike_29 : decode cX5_strike 29 = .ok (.istore_n 1, 1) := by decide +kernel
theorem dX5_strike_30 : decode cX5_strike 30 = .ok (.aload_n 0, 1) := by decide +kernel
theorem dX5_strike_31 : decode cX5_strike 31 = .ok (.aload_n 0, 1) := by decide +kernel
theorem dX5_strike_32 : decode cX5_strike 32 = .ok (.getfield 50, 3) := by decide +kernel
theorem dX5_strike_35 : decode cX5_strike 35 = .ok (.invokestatic 137, 3) := by decide +kernel
theorem dX5_strike_38 : decode cX5_strike 38 = .ok (.putfield 50, 3) := by decide +kernel
theorem dX5_strike_41 : decode cX5_strike 41 = .ok (.iload_n 1, 1) := by decide +kernel
theorem dX5_strike_42 : decode cX5_strike 42 = .ok (.ireturn, 1) := by decide +kernel
set_option maxRecDepth 20000 in
theorem ggX5_reform_X1_has : GoodIn wsX5_reform wsX1_has := goodIn_r _ [9, 10, 47, 48, 49, 50, 51, 52, 53] (by decide +kernel) (by decide +kernel)
set_option maxRecDepth 20000 in
theorem gX5_reform_X1_has : GoodIn wsX5_reform (wsV RX5 84 RX1 yX1_has wsX1_has) := goodIn_app (goodIn_of _ (by decide +kernel)) ggX5_reform_X1_has
set_option maxRecDepth 20000 in
theorem ggX5_reform_X5_stateNow : GoodIn wsX5_reform wsX5_stateNow := goodIn_r _ [15, 16, 1, 17, 18, 19, 8, 20, 21, 22, 23, 38, 39, 40, 41, 42, 43, 44, 45, 46, 47, 48, 49, 50, 51, 52, 53] (by decide +kernel) (by decide +kernel)
set_option maxRecDepth 20000 in
theorem gX5_reform_X5_stateNow : GoodIn wsX5_reform (wsV RX5 123 RX5 yX5_stateNow wsX5_stateNow) := goodIn_app (goodIn_of _ (by decide +kernel)) ggX5_reform_X5_stateNow
set_option maxRecDepth 20000 in
theorem ggX5_reform_X0_remember : GoodIn wsX5_reform wsX0_remember := goodIn_r _ [28, 29, 30, 31, 32, 33, 34, 54, 55] (by decide +kernel) (by decide +kernel)
set_option maxRecDepth 20000 in
theorem gX5_reform_X0_remember : GoodIn wsX5_reform (wsV RX5 127 RX0 yX0_remember wsX0_remember) := goodIn_app (goodIn_of _ (by decide +kernel)) ggX5_reform_X0_remember
set_option maxRecDepth 20000 in
theorem ggX5_reform_X5_lessOneOrNone : GoodIn wsX5_reform wsX5_lessOneOrNone := goodIn_r _ [37] (by decide +kernel) (by decide +kernel)
set_option maxRecDepth 20000 in
theorem gX5_reform_X5_lessOneOrNone : GoodIn wsX5_reform (va_wsS RX5 91 yX5_lessOneOrNone wsX5_lessOneOrNone) := goodIn_app (goodIn_of _ (by decide +kernel)) ggX5_reform_X5_lessOneOrNone
theorem dX5_reform_0 : decode cX5_reform 0 = .ok (.aload_n 0, 1) := by decide +kernel
theorem dX5_reform_1 : decode cX5_reform 1 = .ok (.getfield 19, 3) := by decide +kernel
theorem dX5_reform_4 : decode cX5_reform 4 = .ok (.iload_n 1, 1) := by decide +kernel
theorem dX5_reform_5 : decode cX5_reform 5 = .ok (.invokevirtual 84, 3) := by decide +kernel
theorem dX5_reform_8 : decode cX5_reform 8 = .ok (.ifCond .ne 5, 3) := by decide +kernel
theorem dX5_reform_11 : decode cX5_reform 11 = .ok (.iconst (-1), 1) := by decide +kernel
theorem dX5_reform_12 : decode cX5_reform 12 = .ok (.ireturn, 1) := by decide +kernel
theorem dX5_reform_13 : decode cX5_reform 13 = .ok (.aload_n 0, 1) := by decide +kernel
theorem dX5_reform_14 : decode cX5_reform 14 = .ok (.getfield 19, 3) := by decide +kernel
theorem dX5_reform_17 : decode cX5_reform 17 = .ok (.getfield 95, 3) := by decide +kernel
theorem dX5_reform_20 : decode cX5_reform 20 = .ok (.iload_n 1, 1) := by decide +kernel
theorem dX5_reform_21 : decode cX5_reform 21 = .ok (.iaload, 1) := by decide +kernel
theorem dX5_reform_22 : decode cX5_reform 22 = .ok (.istore_n 2, 1) := by decide +kernel
theorem dX5_reform_23 : decode cX5_reform 23 = .ok (.iload_n 2, 1) := by decide +kernel
theorem dX5_reform_24 : decode cX5_reform 24 = .ok (.ifCond .ne 6, 3) := by decide +kernel
theorem dX5_reform_27 : decode cX5_reform 27 = .ok (.bipush (-3), 2) := by decide +kernel
theorem dX5_reform_29 : decode cX5_reform 29 = .ok (.ireturn, 1) := by decide +kernel
theorem dX5_reform_30 : decode cX5_reform 30 = .ok (.aload_n 0, 1) := by decide +kernel
theorem dX5_reform_31 : decode cX5_reform 31 = .ok (.getfield 26, 3) := by decide +kernel
theorem dX5_reform_34 : decode cX5_reform 34 = .ok (.aload_n 0, 1) := by decide +kernel
theorem dX5_reform_35 : decode cX5_reform 35 = .ok (.invokevirtual 123, 3) := by decide +kernel
theorem dX5_reform_38 : decode cX5_reform 38 = .ok (.invokevirtual 127, 3) := by decide +kernel
theorem dX5_reform_41 : decode cX5_reform 41 = .ok (.aload_n 0, 1) := by decide +kernel
theorem dX5_reform_42 : decode cX5_reform 42 = .ok (.getfield 19, 3) := by decide +kernel
theorem dX5_reform_45 : decode cX5_reform 45 = .ok (.getfield 95, 3) := by decide +kernel
theorem dX5_reform_48 : decode cX5_reform 48 = .ok (.iload_n 1, 1) := by decide +kernel
theorem dX5_reform_49 : decode cX5_reform 49 = .ok (.iconst 0, 1) := by decide +kernel
theorem dX5_reform_50 : decode cX5_reform 50 = .ok (.iastore, 1) := by decide +kernel
theorem dX5_reform_51 : decode cX5_reform 51 = .ok (.aload_n 0, 1) := by decide +kernel
theorem dX5_reform_52 : decode cX5_reform 52 = .ok (.getfield 19, 3) := by decide +kernel
theorem dX5_reform_55 : decode cX5_reform 55 = .ok (.getfield 98, 3) := by decide +kernel
theorem dX5_reform_58 : decode cX5_reform 58 = .ok (.iload_n 1, 1) := by decide +kernel
theorem dX5_reform_59 : decode cX5_reform 59 = .ok (.iconst 0, 1) := by decide +kernel
theorem dX5_reform_60 : decode cX5_reform 60 = .ok (.iastore, 1) := by decide +kernel
theorem dX5_reform_61 : decode cX5_reform 61 = .ok (.iload_n 2, 1) := by decide +kernel
theorem dX5_reform_62 : decode cX5_reform 62 = .ok (.invokestatic 91, 3) := by decide +kernel
theorem dX5_reform_65 : decode cX5_reform 65 = .ok (.ireturn, 1) := by decide +kernel
set_option maxRecDepth 20000 in
theorem ggX5_seat_X1_has : GoodIn wsX5_seat wsX1_has := goodIn_r _ [8, 9, 46, 47, 48, 49, 50, 51, 52] (by decide +kernel) (by decide +kernel)
set_option maxRecDepth 20000 in
theorem gX5_seat_X1_has : GoodIn wsX5_seat (wsV RX5 84 RX1 yX1_has wsX1_has) := goodIn_app (goodIn_of _ (by decide +kernel)) ggX5_seat_X1_has
set_option maxRecDepth 20000 in
theorem ggX5_seat_X5_lessOneOrNone : GoodIn wsX5_seat wsX5_lessOneOrNone := goodIn_r _ [13] (by decide +kernel) (by decide +kernel)
set_option maxRecDepth 20000 in
theorem gX5_seat_X5_lessOneOrNone : GoodIn wsX5_seat (va_wsS RX5 91 yX5_lessOneOrNone wsX5_lessOneOrNone) := goodIn_app (goodIn_of _ (by decide +kernel)) ggX5_seat_X5_lessOneOrNone
set_option maxRecDepth 20000 in
theorem ggX5_seat_X5_stateNow : GoodIn wsX5_seat wsX5_stateNow := goodIn_r _ [17, 18, 1, 19, 20, 21, 7, 22, 23, 24, 25, 37, 38, 39, 40, 41, 42, 43, 44, 45, 46, 47, 48, 49, 50, 51, 52] (by decide +kernel) (by decide +kernel)
set_option maxRecDepth 20000 in
theorem gX5_seat_X5_stateNow : GoodIn wsX5_seat (wsV RX5 123 RX5 yX5_stateNow wsX5_stateNow) := goodIn_app (goodIn_of _ (by decide +kernel)) ggX5_seat_X5_stateNow
set_option maxRecDepth 20000 in
theorem ggX5_seat_X0_remember : GoodIn wsX5_seat wsX0_remember := goodIn_r _ [30, 31, 32, 33, 34, 35, 36, 53, 54] (by decide +kernel) (by decide +kernel)
set_option maxRecDepth 20000 in
theorem gX5_seat_X0_remember : GoodIn wsX5_seat (wsV RX5 127 RX0 yX0_remember wsX0_remember) := goodIn_app (goodIn_of _ (by decide +kernel)) ggX5_seat_X0_remember
theorem dX5_seat_0 : decode cX5_seat 0 = .ok (.aload_n 0, 1) := by decide +kernel
theorem dX5_seat_1 : decode cX5_seat 1 = .ok (.getfield 19, 3) := by decide +kernel
theorem dX5_seat_4 : decode cX5_seat 4 = .ok (.iload_n 1, 1) := by decide +kernel
theorem dX5_seat_5 : decode cX5_seat 5 = .ok (.invokevirtual 84, 3) := by decide +kernel
theorem dX5_seat_8 : decode cX5_seat 8 = .ok (.ifCond .ne 5, 3) := by decide +kernel
theorem dX5_seat_11 : decode cX5_seat 11 = .ok (.iconst (-1), 1) := by decide +kernel
theorem dX5_seat_12 : decode cX5_seat 12 = .ok (.ireturn, 1) := by decide +kernel
theorem dX5_seat_13 : decode cX5_seat 13 = .ok (.iload_n 2, 1) := by decide +kernel
theorem dX5_seat_14 : decode cX5_seat 14 = .ok (.bipush (-9), 2) := by decide +kernel
theorem dX5_seat_16 : decode cX5_seat 16 = .ok (.if_icmp .eq 15, 3) := by decide +kernel
theorem dX5_seat_19 : decode cX5_seat 19 = .ok (.iload_n 2, 1) := by decide +kernel
theorem dX5_seat_20 : decode cX5_seat 20 = .ok (.ifCond .lt 8, 3) := by decide +kernel
theorem dX5_seat_23 : decode cX5_seat 23 = .ok (.iload_n 2, 1) := by decide +kernel
theorem dX5_seat_24 : decode cX5_seat 24 = .ok (.iload_n 1, 1) := by decide +kernel
theorem dX5_seat_25 : decode cX5_seat 25 = .ok (.if_icmp .lt 6, 3) := by decide +kernel
theorem dX5_seat_28 : decode cX5_seat 28 = .ok (.bipush (-2), 2) := by decide +kernel
theorem dX5_seat_30 : decode cX5_seat 30 = .ok (.ireturn, 1) := by decide +kernel
theorem dX5_seat_31 : decode cX5_seat 31 = .ok (.aload_n 0, 1) := by decide +kernel
theorem dX5_seat_32 : decode cX5_seat 32 = .ok (.getfield 19, 3) := by decide +kernel
theorem dX5_seat_35 : decode cX5_seat 35 = .ok (.getfield 104, 3) := by decide +kernel
theorem dX5_seat_38 : decode cX5_seat 38 = .ok (.iload_n 1, 1) := by decide +kernel
theorem dX5_seat_39 : decode cX5_seat 39 = .ok (.iaload, 1) := by decide +kernel
theorem dX5_seat_40 : decode cX5_seat 40 = .ok (.istore_n 3, 1) := by decide +kernel
theorem dX5_seat_41 : decode cX5_seat 41 = .ok (.iload_n 3, 1) := by decide +kernel
theorem dX5_seat_42 : decode cX5_seat 42 = .ok (.invokestatic 91, 3) := by decide +kernel
theorem dX5_seat_45 : decode cX5_seat 45 = .ok (.iload_n 2, 1) := by decide +kernel
theorem dX5_seat_46 : decode cX5_seat 46 = .ok (.if_icmp .ne 6, 3) := by decide +kernel
theorem dX5_seat_49 : decode cX5_seat 49 = .ok (.bipush (-3), 2) := by decide +kernel
theorem dX5_seat_51 : decode cX5_seat 51 = .ok (.ireturn, 1) := by decide +kernel
theorem dX5_seat_52 : decode cX5_seat 52 = .ok (.aload_n 0, 1) := by decide +kernel
theorem dX5_seat_53 : decode cX5_seat 53 = .ok (.getfield 26, 3) := by decide +kernel
theorem dX5_seat_56 : decode cX5_seat 56 = .ok (.aload_n 0, 1) := by decide +kernel
theorem dX5_seat_57 : decode cX5_seat 57 = .ok (.invokevirtual 123, 3) := by decide +kernel
theorem dX5_seat_60 : decode cX5_seat 60 = .ok (.invokevirtual 127, 3) := by decide +kernel
theorem dX5_seat_63 : decode cX5_seat 63 = .ok (.aload_n 0, 1) := by decide +kernel
theorem dX5_seat_64 : decode cX5_seat 64 = .ok (.getfield 19, 3) := by decide +kernel
theorem dX5_seat_67 : decode cX5_seat 67 = .ok (.getfield 104, 3) := by decide +kernel
theorem dX5_seat_70 : decode cX5_seat 70 = .ok (.iload_n 1, 1) := by decide +kernel
theorem dX5_seat_71 : decode cX5_seat 71 = .ok (.iload_n 2, 1) := by decide +kernel
theorem dX5_seat_72 : decode cX5_seat 72 = .ok (.bipush (-9), 2) := by decide +kernel
theorem dX5_seat_74 : decode cX5_seat 74 = .ok (.if_icmp .ne 7, 3) := by decide +kernel
theorem dX5_seat_77 : decode cX5_seat 77 = .ok (.iconst 0, 1) := by decide +kernel
theorem dX5_seat_78 : decode cX5_seat 78 = .ok (.goto 6, 3) := by decide +kernel
theorem dX5_seat_81 : decode cX5_seat 81 = .ok (.iload_n 2, 1) := by decide +kernel
theorem dX5_seat_82 : decode cX5_seat 82 = .ok (.iconst 1, 1) := by decide +kernel
theorem dX5_seat_83 : decode cX5_seat 83 = .ok (.iadd, 1) := by decide +kernel
theorem dX5_seat_84 : decode cX5_seat 84 = .ok (.iastore, 1) := by decide +kernel
theorem dX5_seat_85 : decode cX5_seat 85 = .ok (.iload_n 3, 1) := by decide +kernel
theorem dX5_seat_86 : decode cX5_seat 86 = .ok (.invokestatic 91, 3) := by decide +kernel
theorem dX5_seat_89 : decode cX5_seat 89 = .ok (.ireturn, 1) := by decide +kernel
set_option maxRecDepth 20000 in
theorem ggX5_undo_X0_takeLast : GoodIn wsX5_undo wsX0_takeLast := goodIn_r _ [7, 8, 9, 34, 35] (by decide +kernel) (by decide +kernel)
set_option maxRecDepth 20000 in
theorem gX5_undo_X0_takeLast : GoodIn wsX5_undo (wsV RX5 140 RX0 yX0_takeLast wsX0_takeLast) := goodIn_app (goodIn_of _ (by decide +kernel)) ggX5_undo_X0_takeLast
set_option maxRecDepth 20000 in
theorem ggX5_undo_X5_goBackTo : GoodIn wsX5_undo wsX5_goBackTo := goodIn_r _ [14, 15, 16, 17, 18, 19, 20, 21, 22, 23, 24, 25, 26, 27, 28, 29, 30, 31, 32, 33, 36, 37, 38, 39, 40, 41, 42] (by decide +kernel) (by decide +kernel)
set_option maxRecDepth 20000 in
theorem gX5_undo_X5_goBackTo : GoodIn wsX5_undo (wsV RX5 143 RX5 yX5_goBackTo wsX5_goBackTo) := goodIn_app (goodIn_of _ (by decide +kernel)) ggX5_undo_X5_goBackTo
theorem dX5_undo_0 : decode cX5_undo 0 = .ok (.aload_n 0, 1) := by decide +kernel
theorem dX5_undo_1 : decode cX5_undo 1 = .ok (.getfield 26, 3) := by decide +kernel
theorem dX5_undo_4 : decode cX5_undo 4 = .ok (.getfield 73, 3) := by decide +kernel
theorem dX5_undo_7 : decode cX5_undo 7 = .ok (.ifCond .ne 6, 3) := by decide +kernel
theorem dX5_undo_10 : decode cX5_undo 10 = .ok (.bipush (-3), 2) := by decide +kernel
theorem dX5_undo_12 : decode cX5_undo 12 = .ok (.ireturn, 1) := by decide +kernel
theorem dX5_undo_13 : decode cX5_undo 13 = .ok (.aload_n 0, 1) := by decide +kernel
theorem dX5_undo_14 : decode cX5_undo 14 = .ok (.aload_n 0, 1) := by decide +kernel
theorem dX5_undo_15 : decode cX5_undo 15 = .ok (.getfield 26, 3) := by decide +kernel
theorem dX5_undo_18 : decode cX5_undo 18 = .ok (.invokevirtual 140, 3) := by decide +kernel
theorem dX5_undo_21 : decode cX5_undo 21 = .ok (.invokevirtual 143, 3) := by decide +kernel
theorem dX5_undo_24 : decode cX5_undo 24 = .ok (.aload_n 0, 1) := by decide +kernel
theorem dX5_undo_25 : decode cX5_undo 25 = .ok (.getfield 26, 3) := by decide +kernel
theorem dX5_undo_28 : decode cX5_undo 28 = .ok (.getfield 73, 3) := by decide +kernel
theorem dX5_undo_31 : decode cX5_undo 31 = .ok (.ireturn, 1) := by decide +kernel
set_option maxRecDepth 20000 in
theorem ggX5_open_X1_has : GoodIn wsX5_open wsX1_has := goodIn_r _ [7, 8, 27, 28, 29, 30, 31, 32, 33] (by decide +kernel) (by decide +kernel)
set_option maxRecDepth 20000 in
theorem gX5_open_X1_has : GoodIn wsX5_open (wsV RX5 84 RX1 yX1_has wsX1_has) := goodIn_app (goodIn_of _ (by decide +kernel)) ggX5_open_X1_has
set_option maxRecDepth 20000 in
theorem ggX5_open_X5_wordsTold : GoodIn wsX5_open wsX5_wordsTold := goodIn_r _ [13, 2, 14, 15, 16, 17, 18, 19, 20, 21, 22, 23, 24, 25, 26] (by decide +kernel) (by decide +kernel)
set_option maxRecDepth 20000 in
theorem gX5_open_X5_wordsTold : GoodIn wsX5_open (wsV RX5 113 RX5 yX5_wordsTold wsX5_wordsTold) := goodIn_app (goodIn_of _ (by decide +kernel)) ggX5_open_X5_wordsTold
theorem dX5_open_0 : decode cX5_open 0 = .ok (.aload_n 0, 1) := by decide +kernel
theorem dX5_open_1 : decode cX5_open 1 = .ok (.getfield 19, 3) := by decide +kernel
theorem dX5_open_4 : decode cX5_open 4 = .ok (.iload_n 1, 1) := by decide +kernel
theorem dX5_open_5 : decode cX5_open 5 = .ok (.invokevirtual 84, 3) := by decide +kernel
theorem dX5_open_8 : decode cX5_open 8 = .ok (.ifCond .ne 5, 3) := by decide +kernel
theorem dX5_open_11 : decode cX5_open 11 = .ok (.iconst (-1), 1) := by decide +kernel
theorem dX5_open_12 : decode cX5_open 12 = .ok (.ireturn, 1) := by decide +kernel
theorem dX5_open_13 : decode cX5_open 13 = .ok (.aload_n 0, 1) := by decide +kernel
theorem dX5_open_14 : decode cX5_open 14 = .ok (.iload_n 1, 1) := by decide +kernel
theorem dX5_open_15 : decode cX5_open 15 = .ok (.invokevirtual 113, 3) := by decide +kernel
theorem dX5_open_18 : decode cX5_open 18 = .ok (.istore_n 2, 1) := by decide +kernel
theorem dX5_open_19 : decode cX5_open 19 = .ok (.aload_n 0, 1) := by decide +kernel
theorem dX5_open_20 : decode cX5_open 20 = .ok (.getfield 37, 3) := by decide +kernel
theorem dX5_open_23 : decode cX5_open 23 = .ok (.iload_n 1, 1) := by decide +kernel
theorem dX5_open_24 : decode cX5_open 24 = .ok (.iconst 1, 1) := by decide +kernel
theorem dX5_open_25 : decode cX5_open 25 = .ok (.iastore, 1) := by decide +kernel
theorem dX5_open_26 : decode cX5_open 26 = .ok (.iload_n 2, 1) := by decide +kernel
theorem dX5_open_27 : decode cX5_open 27 = .ok (.ireturn, 1) := by decide +kernel
set_option maxRecDepth 20000 in
theorem ggX5_tell_X1_has : GoodIn wsX5_tell wsX1_has := goodIn_r _ [7, 8, 29, 30, 31, 32, 33, 34, 35] (by decide +kernel) (by decide +kernel)
set_option maxRecDepth 20000 in
theorem gX5_tell_X1_has : GoodIn wsX5_tell (wsV RX5 84 RX1 yX1_has wsX1_has) := goodIn_app (goodIn_of _ (by decide +kernel)) ggX5_tell_X1_has
set_option maxRecDepth 20000 in
theorem ggX5_tell_X5_isWord : GoodIn wsX5_tell wsX5_isWord := goodIn_r _ [12] (by decide +kernel) (by decide +kernel)
set_option maxRecDepth 20000 in
theorem gX5_tell_X5_isWord : GoodIn wsX5_tell (va_wsS RX5 120 yX5_isWord wsX5_isWord) := goodIn_app (goodIn_of _ (by decide +kernel)) ggX5_tell_X5_isWord
set_option maxRecDepth 20000 in
theorem ggX5_tell_X4_wordsIn : GoodIn wsX5_tell wsX4_wordsIn := goodIn_r _ [16] (by decide +kernel) (by decide +kernel)
set_option maxRecDepth 20000 in
theorem gX5_tell_X4_wordsIn : GoodIn wsX5_tell (va_wsS RX5 110 yX4_wordsIn wsX4_wordsIn) := goodIn_app (goodIn_of _ (by decide +kernel)) ggX5_tell_X4_wordsIn
set_option maxRecDepth 20000 in
theorem ggX5_tell_X4_with : GoodIn wsX5_tell wsX4_with := goodIn_r _ [19] (by decide +kernel) (by decide +kernel)
set_option maxRecDepth 20000 in
theorem gX5_tell_X4_with : GoodIn wsX5_tell (va_wsS RX5 131 yX4_with wsX4_with) := goodIn_app (goodIn_of _ (by decide +kernel)) ggX5_tell_X4_with
theorem dX5_tell_0 : decode cX5_tell 0 = .ok (.aload_n 0, 1) := by decide +kernel
theorem dX5_tell_1 : decode cX5_tell 1 = .ok (.getfield 19, 3) := by decide +kernel
theorem dX5_tell_4 : decode cX5_tell 4 = .ok (.iload_n 1, 1) := by decide +kernel
theorem dX5_tell_5 : decode cX5_tell 5 = .ok (.invokevirtual 84, 3) := by decide +kernel
theorem dX5_tell_8 : decode cX5_tell 8 = .ok (.ifCond .ne 5, 3) := by decide +kernel
theorem dX5_tell_11 : decode cX5_tell 11 = .ok (.iconst (-1), 1) := by decide +kernel
theorem dX5_tell_12 : decode cX5_tell 12 = .ok (.ireturn, 1) := by decide +kernel
theorem dX5_tell_13 : decode cX5_tell 13 = .ok (.iload_n 2, 1) := by decide +kernel
theorem dX5_tell_14 : decode cX5_tell 14 = .ok (.invokestatic 120, 3) := by decide +kernel
theorem dX5_tell_17 : decode cX5_tell 17 = .ok (.ifCond .ne 6, 3) := by decide +kernel
theorem dX5_tell_20 : decode cX5_tell 20 = .ok (.bipush (-2), 2) := by decide +kernel
theorem dX5_tell_22 : decode cX5_tell 22 = .ok (.ireturn, 1) := by decide +kernel
theorem dX5_tell_23 : decode cX5_tell 23 = .ok (.aload_n 0, 1) := by decide +kernel
theorem dX5_tell_24 : decode cX5_tell 24 = .ok (.getfield 37, 3) := by decide +kernel
theorem dX5_tell_27 : decode cX5_tell 27 = .ok (.iload_n 1, 1) := by decide +kernel
theorem dX5_tell_28 : decode cX5_tell 28 = .ok (.iaload, 1) := by decide +kernel
theorem dX5_tell_29 : decode cX5_tell 29 = .ok (.ifCond .ne 6, 3) := by decide +kernel
theorem dX5_tell_32 : decode cX5_tell 32 = .ok (.bipush (-3), 2) := by decide +kernel
theorem dX5_tell_34 : decode cX5_tell 34 = .ok (.ireturn, 1) := by decide +kernel
theorem dX5_tell_35 : decode cX5_tell 35 = .ok (.aload_n 0, 1) := by decide +kernel
theorem dX5_tell_36 : decode cX5_tell 36 = .ok (.getfield 37, 3) := by decide +kernel
theorem dX5_tell_39 : decode cX5_tell 39 = .ok (.iload_n 1, 1) := by decide +kernel
theorem dX5_tell_40 : decode cX5_tell 40 = .ok (.iaload, 1) := by decide +kernel
theorem dX5_tell_41 : decode cX5_tell 41 = .ok (.invokestatic 110, 3) := by decide +kernel
theorem dX5_tell_44 : decode cX5_tell 44 = .ok (.bipush 6, 2) := by decide +kernel
theorem dX5_tell_46 : decode cX5_tell 46 = .ok (.if_icmp .lt 6, 3) := by decide +kernel
theorem dX5_tell_49 : decode cX5_tell 49 = .ok (.bipush (-4), 2) := by decide +kernel
theorem dX5_tell_51 : decode cX5_tell 51 = .ok (.ireturn, 1) := by decide +kernel
theorem dX5_tell_52 : decode cX5_tell 52 = .ok (.aload_n 0, 1) := by decide +kernel
theorem dX5_tell_53 : decode cX5_tell 53 = .ok (.getfield 37, 3) := by decide +kernel
theorem dX5_tell_56 : decode cX5_tell 56 = .ok (.iload_n 1, 1) := by decide +kernel
theorem dX5_tell_57 : decode cX5_tell 57 = .ok (.aload_n 0, 1) := by decide +kernel
theorem dX5_tell_58 : decode cX5_tell 58 = .ok (.getfield 37, 3) := by decide +kernel
theorem dX5_tell_61 : decode cX5_tell 61 = .ok (.iload_n 1, 1) := by decide +kernel
theorem dX5_tell_62 : decode cX5_tell 62 = .ok (.iaload, 1) := by decide +kernel
theorem dX5_tell_63 : decode cX5_tell 63 = .ok (.iload_n 2, 1) := by decide +kernel
theorem dX5_tell_64 : decode cX5_tell 64 = .ok (.invokestatic 131, 3) := by decide +kernel
theorem dX5_tell_67 : decode cX5_tell 67 = .ok (.iastore, 1) := by decide +kernel
theorem dX5_tell_68 : decode cX5_tell 68 = .ok (.aload_n 0, 1) := by decide +kernel
theorem dX5_tell_69 : decode cX5_tell 69 = .ok (.getfield 37, 3) := by decide +kernel
theorem dX5_tell_72 : decode cX5_tell 72 = .ok (.iload_n 1, 1) := by decide +kernel
theorem dX5_tell_73 : decode cX5_tell 73 = .ok (.iaload, 1) := by decide +kernel
theorem dX5_tell_74 : decode cX5_tell 74 = .ok (.invokestatic 110, 3) := by decide +kernel
theorem dX5_tell_77 : decode cX5_tell 77 = .ok (.ireturn, 1) := by decide +kernel
set_option maxRecDepth 20000 in
theorem ggX5_untell_X1_has : GoodIn wsX5_untell wsX1_has := goodIn_r _ [7, 8, 27, 28, 29, 30, 31, 32, 33] (by decide +kernel) (by decide +kernel)
set_option maxRecDepth 20000 in
theorem gX5_untell_X1_has : GoodIn wsX5_untell (wsV RX5 84 RX1 yX1_has wsX1_has) := goodIn_app (goodIn_of _ (by decide +kernel)) ggX5_untell_X1_has
set_option maxRecDepth 20000 in
theorem ggX5_untell_X5_wordsTold : GoodIn wsX5_untell wsX5_wordsTold := goodIn_r _ [13, 2, 14, 15, 16, 17, 18, 19, 20, 21, 22, 23, 24, 25, 26] (by decide +kernel) (by decide +kernel)
set_option maxRecDepth 20000 in
theorem gX5_untell_X5_wordsTold : GoodIn wsX5_untell (wsV RX5 113 RX5 yX5_wordsTold wsX5_wordsTold) := goodIn_app (goodIn_of _ (by decide +kernel)) ggX5_untell_X5_wordsTold
theorem dX5_untell_0 : decode cX5_untell 0 = .ok (.aload_n 0, 1) := by decide +kernel
theorem dX5_untell_1 : decode cX5_untell 1 = .ok (.getfield 19, 3) := by decide +kernel
theorem dX5_untell_4 : decode cX5_untell 4 = .ok (.iload_n 1, 1) := by decide +kernel
theorem dX5_untell_5 : decode cX5_untell 5 = .ok (.invokevirtual 84, 3) := by decide +kernel
theorem dX5_untell_8 : decode cX5_untell 8 = .ok (.ifCond .ne 5, 3) := by decide +kernel
theorem dX5_untell_11 : decode cX5_untell 11 = .ok (.iconst (-1), 1) := by decide +kernel
theorem dX5_untell_12 : decode cX5_untell 12 = .ok (.ireturn, 1) := by decide +kernel
theorem dX5_untell_13 : decode cX5_untell 13 = .ok (.aload_n 0, 1) := by decide +kernel
theorem dX5_untell_14 : decode cX5_untell 14 = .ok (.iload_n 1, 1) := by decide +kernel
theorem dX5_untell_15 : decode cX5_untell 15 = .ok (.invokevirtual 113, 3) := by decide +kernel
theorem dX5_untell_18 : decode cX5_untell 18 = .ok (.istore_n 2, 1) := by decide +kernel
theorem dX5_untell_19 : decode cX5_untell 19 = .ok (.aload_n 0, 1) := by decide +kernel
theorem dX5_untell_20 : decode cX5_untell 20 = .ok (.getfield 37, 3) := by decide +kernel
theorem dX5_untell_23 : decode cX5_untell 23 = .ok (.iload_n 1, 1) := by decide +kernel
theorem dX5_untell_24 : decode cX5_untell 24 = .ok (.iconst 0, 1) := by decide +kernel
theorem dX5_untell_25 : decode cX5_untell 25 = .ok (.iastore, 1) := by decide +kernel
theorem dX5_untell_26 : decode cX5_untell 26 = .ok (.iload_n 2, 1) := by decide +kernel
theorem dX5_untell_27 : decode cX5_untell 27 = .ok (.ireturn, 1) := by decide +kernel
set_option maxRecDepth 20000 in
theorem ggX5_fits_X5_isLength : GoodIn wsX5_fits wsX5_isLength := goodIn_r _ [4] (by decide +kernel) (by decide +kernel)
set_option maxRecDepth 20000 in
theorem gX5_fits_X5_isLength : GoodIn wsX5_fits (va_wsS RX5 146 yX5_isLength wsX5_isLength) := goodIn_app (goodIn_of _ (by decide +kernel)) ggX5_fits_X5_isLength
set_option maxRecDepth 20000 in
theorem ggX5_fits_X4_endOf : GoodIn wsX5_fits wsX4_endOf := goodIn_r _ [8] (by decide +kernel) (by decide +kernel)
set_option maxRecDepth 20000 in
theorem gX5_fits_X4_endOf : GoodIn wsX5_fits (va_wsS RX5 150 yX4_endOf wsX4_endOf) := goodIn_app (goodIn_of _ (by decide +kernel)) ggX5_fits_X4_endOf
set_option maxRecDepth 20000 in
theorem ggX5_fits_X4_firstOf : GoodIn wsX5_fits wsX4_firstOf := goodIn_r _ [11] (by decide +kernel) (by decide +kernel)
set_option maxRecDepth 20000 in
theorem gX5_fits_X4_firstOf : GoodIn wsX5_fits (va_wsS RX5 153 yX4_firstOf wsX4_firstOf) := goodIn_app (goodIn_of _ (by decide +kernel)) ggX5_fits_X4_firstOf
set_option maxRecDepth 20000 in
theorem ggX5_fits_X5_isAsTold : GoodIn wsX5_fits wsX5_isAsTold := goodIn_r _ [15, 16, 17, 18, 19, 20, 21, 22, 23, 24, 25, 26, 27, 28, 29, 30, 31, 32, 33, 34, 35, 36, 37, 38, 39, 7, 40, 41, 42, 43, 44, 45, 46, 47, 48, 49, 50, 51, 52, 53, 54, 55, 56, 57, 58, 59, 60, 61, 62, 63, 64, 65] (by decide +kernel) (by decide +kernel)
set_option maxRecDepth 20000 in
theorem gX5_fits_X5_isAsTold : GoodIn wsX5_fits (wsV RX5 156 RX5 yX5_isAsTold wsX5_isAsTold) := goodIn_app (goodIn_of _ (by decide +kernel)) ggX5_fits_X5_isAsTold
theorem dX5_fits_0 : decode cX5_fits 0 = .ok (.iload_n 1, 1) := by decide +kernel
theorem dX5_fits_1 : decode cX5_fits 1 = .ok (.iconst 0, 1) := by decide +kernel
theorem dX5_fits_2 : decode cX5_fits 2 = .ok (.invokestatic 146, 3) := by decide +kernel
theorem dX5_fits_5 : decode cX5_fits 5 = .ok (.ifCond .ne 6, 3) := by decide +kernel
theorem dX5_fits_8 : decode cX5_fits 8 = .ok (.bipush (-2), 2) := by decide +kernel
theorem dX5_fits_10 : decode cX5_fits 10 = .ok (.ireturn, 1) := by decide +kernel
theorem dX5_fits_11 : decode cX5_fits 11 = .ok (.iconst 0, 1) := by decide +kernel
theorem dX5_fits_12 : decode cX5_fits 12 = .ok (.istore_n 2, 1) := by decide +kernel
theorem dX5_fits_13 : decode cX5_fits 13 = .ok (.iload_n 1, 1) := by decide +kernel
theorem dX5_fits_14 : decode cX5_fits 14 = .ok (.invokestatic 150, 3) := by decide +kernel
theorem dX5_fits_17 : decode cX5_fits 17 = .ok (.istore_n 3, 1) := by decide +kernel
theorem dX5_fits_18 : decode cX5_fits 18 = .ok (.iload_n 1, 1) := by decide +kernel
theorem dX5_fits_19 : decode cX5_fits 19 = .ok (.invokestatic 153, 3) := by decide +kernel
theorem dX5_fits_22 : decode cX5_fits 22 = .ok (.istore 4, 2) := by decide +kernel
theorem dX5_fits_24 : decode cX5_fits 24 = .ok (.iload 4, 2) := by decide +kernel
theorem dX5_fits_26 : decode cX5_fits 26 = .ok (.iload_n 3, 1) := by decide +kernel
theorem dX5_fits_27 : decode cX5_fits 27 = .ok (.if_icmp .ge 21, 3) := by decide +kernel
theorem dX5_fits_30 : decode cX5_fits 30 = .ok (.aload_n 0, 1) := by decide +kernel
theorem dX5_fits_31 : decode cX5_fits 31 = .ok (.iload 4, 2) := by decide +kernel
theorem dX5_fits_33 : decode cX5_fits 33 = .ok (.invokevirtual 156, 3) := by decide +kernel
theorem dX5_fits_36 : decode cX5_fits 36 = .ok (.ifCond .eq 6, 3) := by decide +kernel
theorem dX5_fits_39 : decode cX5_fits 39 = .ok (.iinc 2 1, 3) := by decide +kernel
theorem dX5_fits_42 : decode cX5_fits 42 = .ok (.iinc 4 1, 3) := by decide +kernel
theorem dX5_fits_45 : decode cX5_fits 45 = .ok (.goto (-21), 3) := by decide +kernel
theorem dX5_fits_48 : decode cX5_fits 48 = .ok (.iload_n 2, 1) := by decide +kernel
theorem dX5_fits_49 : decode cX5_fits 49 = .ok (.ireturn, 1) := by decide +kernel
set_option maxRecDepth 20000 in
theorem ggX5_least_X5_isLength : GoodIn wsX5_least wsX5_isLength := goodIn_r _ [4] (by decide +kernel) (by decide +kernel)
set_option maxRecDepth 20000 in
theorem gX5_least_X5_isLength : GoodIn wsX5_least (va_wsS RX5 146 yX5_isLength wsX5_isLength) := goodIn_app (goodIn_of _ (by decide +kernel)) ggX5_least_X5_isLength
set_option maxRecDepth 20000 in
theorem ggX5_least_X4_endOf : GoodIn wsX5_least wsX4_endOf := goodIn_r _ [8] (by decide +kernel) (by decide +kernel)
set_option maxRecDepth 20000 in
theorem gX5_least_X4_endOf : GoodIn wsX5_least (va_wsS RX5 150 yX4_endOf wsX4_endOf) := goodIn_app (goodIn_of _ (by decide +kernel)) ggX5_least_X4_endOf
set_option maxRecDepth 20000 in
theorem ggX5_least_X4_firstOf : GoodIn wsX5_least wsX4_firstOf := goodIn_r _ [11] (by decide +kernel) (by decide +kernel)
set_option maxRecDepth 20000 in
theorem gX5_least_X4_firstOf : GoodIn wsX5_least (va_wsS RX5 153 yX4_firstOf wsX4_firstOf) := goodIn_app (goodIn_of _ (by decide +kernel)) ggX5_least_X4_firstOf
set_option maxRecDepth 20000 in
theorem ggX5_least_X5_isAsTold : GoodIn wsX5_least wsX5_isAsTold := goodIn_r _ [15, 16, 17, 18, 19, 20, 21, 22, 23, 24, 25, 26, 27, 28, 29, 30, 31, 32, 33, 34, 35, 36, 37, 38, 39, 7, 40, 41, 42, 43, 44, 45, 46, 47, 48, 49, 55, 56, 57, 58, 59, 60, 61, 62, 63, 64, 65, 66, 67, 68, 69, 70] (by decide +kernel) (by decide +kernel)
set_option maxRecDepth 20000 in
theorem gX5_least_X5_isAsTold : GoodIn wsX5_least (wsV RX5 156 RX5 yX5_isAsTold wsX5_isAsTold) := goodIn_app (goodIn_of _ (by decide +kernel)) ggX5_least_X5_isAsTold
set_option maxRecDepth 20000 in
theorem ggX5_least_X4_asFigures : GoodIn wsX5_least wsX4_asFigures := goodIn_r _ [52, 53, 39, 7, 40, 54, 42, 43] (by decide +kernel) (by decide +kernel)
set_option maxRecDepth 20000 in
theorem gX5_least_X4_asFigures : GoodIn wsX5_least (va_wsS RX5 159 yX4_asFigures wsX4_asFigures) := goodIn_app (goodIn_of _ (by decide +kernel)) ggX5_least_X4_asFigures
theorem dX5_least_0 : decode cX5_least 0 = .ok (.iload_n 1, 1) := by decide +kernel
theorem dX5_least_1 : decode cX5_least 1 = .ok (.iconst 0, 1) := by decide +kernel
theorem dX5_least_2 : decode cX5_least 2 = .ok (.invokestatic 146, 3) := by decide +kernel
theorem dX5_least_5 : decode cX5_least 5 = .ok (.ifCond .ne 6, 3) := by decide +kernel
theorem dX5_least_8 : decode cX5_least 8 = .ok (.bipush (-2), 2) := by decide +kernel
theorem dX5_least_10 : decode cX5_least 10 = .ok (.ireturn, 1) := by decide +kernel
theorem dX5_least_11 : decode cX5_least 11 = .ok (.iload_n 1, 1) := by decide +kernel
theorem dX5_least_12 : decode cX5_least 12 = .ok (.invokestatic 150, 3) := by decide +kernel
theorem dX5_least_15 : decode cX5_least 15 = .ok (.istore_n 2, 1) := by decide +kernel
theorem dX5_least_16 : decode cX5_least 16 = .ok (.iload_n 1, 1) := by decide +kernel
theorem dX5_least_17 : decode cX5_least 17 = .ok (.invokestatic 153, 3) := by decide +kernel
theorem dX5_least_20 : decode cX5_least 20 = .ok (.istore_n 3, 1) := by decide +kernel
theorem dX5_least_21 : decode cX5_least 21 = .ok (.iload_n 3, 1) := by decide +kernel
theorem dX5_least_22 : decode cX5_least 22 = .ok (.iload_n 2, 1) := by decide +kernel
theorem dX5_least_23 : decode cX5_least 23 = .ok (.if_icmp .ge 22, 3) := by decide +kernel
theorem dX5_least_26 : decode cX5_least 26 = .ok (.aload_n 0, 1) := by decide +kernel
theorem dX5_least_27 : decode cX5_least 27 = .ok (.iload_n 3, 1) := by decide +kernel
theorem dX5_least_28 : decode cX5_least 28 = .ok (.invokevirtual 156, 3) := by decide +kernel
theorem dX5_least_31 : decode cX5_least 31 = .ok (.ifCond .eq 8, 3) := by decide +kernel
theorem dX5_least_34 : decode cX5_least 34 = .ok (.iload_n 3, 1) := by decide +kernel
theorem dX5_least_35 : decode cX5_least 35 = .ok (.invokestatic 159, 3) := by decide +kernel
theorem dX5_least_38 : decode cX5_least 38 = .ok (.ireturn, 1) := by decide +kernel
theorem dX5_least_39 : decode cX5_least 39 = .ok (.iinc 3 1, 3) := by decide +kernel
theorem dX5_least_42 : decode cX5_least 42 = .ok (.goto (-21), 3) := by decide +kernel
theorem dX5_least_45 : decode cX5_least 45 = .ok (.bipush (-9), 2) := by decide +kernel
theorem dX5_least_47 : decode cX5_least 47 = .ok (.ireturn, 1) := by decide +kernel
set_option maxRecDepth 20000 in
theorem ggX5_sure_X5_isLength : GoodIn wsX5_sure wsX5_isLength := goodIn_r _ [4] (by decide +kernel) (by decide +kernel)
set_option maxRecDepth 20000 in
theorem gX5_sure_X5_isLength : GoodIn wsX5_sure (va_wsS RX5 146 yX5_isLength wsX5_isLength) := goodIn_app (goodIn_of _ (by decide +kernel)) ggX5_sure_X5_isLength
set_option maxRecDepth 20000 in
theorem ggX5_sure_X4_endOf : GoodIn wsX5_sure wsX4_endOf := goodIn_r _ [8] (by decide +kernel) (by decide +kernel)
set_option maxRecDepth 20000 in
theorem gX5_sure_X4_endOf : GoodIn wsX5_sure (va_wsS RX5 150 yX4_endOf wsX4_endOf) := goodIn_app (goodIn_of _ (by decide +kernel)) ggX5_sure_X4_endOf
set_option maxRecDepth 20000 in
theorem ggX5_sure_X4_firstOf : GoodIn wsX5_sure wsX4_firstOf := goodIn_r _ [11] (by decide +kernel) (by decide +kernel)
set_option maxRecDepth 20000 in
theorem gX5_sure_X4_firstOf : GoodIn wsX5_sure (va_wsS RX5 153 yX4_firstOf wsX4_firstOf) := goodIn_app (goodIn_of _ (by decide +kernel)) ggX5_sure_X4_firstOf
set_option maxRecDepth 20000 in
theorem ggX5_sure_X5_isAsTold : GoodIn wsX5_sure wsX5_isAsTold := goodIn_r _ [15, 16, 17, 18, 19, 20, 21, 22, 23, 24, 25, 26, 27, 28, 29, 30, 31, 32, 33, 34, 35, 36, 37, 38, 39, 7, 40, 41, 42, 43, 44, 45, 46, 47, 48, 49, 55, 56, 57, 58, 59, 60, 61, 62, 63, 64, 65, 66, 67, 68, 69, 70] (by decide +kernel) (by decide +kernel)
set_option maxRecDepth 20000 in
theorem gX5_sure_X5_isAsTold : GoodIn wsX5_sure (wsV RX5 156 RX5 yX5_isAsTold wsX5_isAsTold) := goodIn_app (goodIn_of _ (by decide +kernel)) ggX5_sure_X5_isAsTold
set_option maxRecDepth 20000 in
theorem ggX5_sure_X4_wordOrNone : GoodIn wsX5_sure wsX4_wordOrNone := goodIn_r _ [52, 53, 39, 7, 40, 54, 42, 43] (by decide +kernel) (by decide +kernel)
set_option maxRecDepth 20000 in
theorem gX5_sure_X4_wordOrNone : GoodIn wsX5_sure (va_wsS RX5 116 yX4_wordOrNone wsX4_wordOrNone) := goodIn_app (goodIn_of _ (by decide +kernel)) ggX5_sure_X4_wordOrNone
theorem dX5_sure_0 : decode cX5_sure 0 = .ok (.iload_n 1, 1) := by decide +kernel
theorem dX5_sure_1 : decode cX5_sure 1 = .ok (.iconst 1, 1) := by decide +kernel
theorem dX5_sure_2 : decode cX5_sure 2 = .ok (.invokestatic 146, 3) := by decide +kernel
theorem dX5_sure_5 : decode cX5_sure 5 = .ok (.ifCond .eq 12, 3) := by decide +kernel
theorem dX5_sure_8 : decode cX5_sure 8 = .ok (.iload_n 2, 1) := by decide +kernel
theorem dX5_sure_9 : decode cX5_sure 9 = .ok (.ifCond .lt 8, 3) := by decide +kernel
theorem dX5_sure_12 : decode cX5_sure 12 = .ok (.iload_n 2, 1) := by decide +kernel
theorem dX5_sure_13 : decode cX5_sure 13 = .ok (.iload_n 1, 1) := by decide +kernel
theorem dX5_sure_14 : decode cX5_sure 14 = .ok (.if_icmp .lt 6, 3) := by decide +kernel
theorem dX5_sure_17 : decode cX5_sure 17 = .ok (.bipush (-2), 2) := by decide +kernel
theorem dX5_sure_19 : decode cX5_sure 19 = .ok (.ireturn, 1) := by decide +kernel
theorem dX5_sure_20 : decode cX5_sure 20 = .ok (.bipush (-9), 2) := by decide +kernel
theorem dX5_sure_22 : decode cX5_sure 22 = .ok (.istore_n 3, 1) := by decide +kernel
theorem dX5_sure_23 : decode cX5_sure 23 = .ok (.iload_n 1, 1) := by decide +kernel
theorem dX5_sure_24 : decode cX5_sure 24 = .ok (.invokestatic 150, 3) := by decide +kernel
theorem dX5_sure_27 : decode cX5_sure 27 = .ok (.istore 4, 2) := by decide +kernel
theorem dX5_sure_29 : decode cX5_sure 29 = .ok (.iload_n 1, 1) := by decide +kernel
theorem dX5_sure_30 : decode cX5_sure 30 = .ok (.invokestatic 153, 3) := by decide +kernel
theorem dX5_sure_33 : decode cX5_sure 33 = .ok (.istore 5, 2) := by decide +kernel
theorem dX5_sure_35 : decode cX5_sure 35 = .ok (.iload 5, 2) := by decide +kernel
theorem dX5_sure_37 : decode cX5_sure 37 = .ok (.iload 4, 2) := by decide +kernel
theorem dX5_sure_39 : decode cX5_sure 39 = .ok (.if_icmp .ge 44, 3) := by decide +kernel
theorem dX5_sure_42 : decode cX5_sure 42 = .ok (.aload_n 0, 1) := by decide +kernel
theorem dX5_sure_43 : decode cX5_sure 43 = .ok (.iload 5, 2) := by decide +kernel
theorem dX5_sure_45 : decode cX5_sure 45 = .ok (.invokevirtual 156, 3) := by decide +kernel
theorem dX5_sure_48 : decode cX5_sure 48 = .ok (.ifCond .eq 29, 3) := by decide +kernel
theorem dX5_sure_51 : decode cX5_sure 51 = .ok (.iload 5, 2) := by decide +kernel
theorem dX5_sure_53 : decode cX5_sure 53 = .ok (.iload_n 2, 1) := by decide +kernel
theorem dX5_sure_54 : decode cX5_sure 54 = .ok (.invokestatic 116, 3) := by decide +kernel
theorem dX5_sure_57 : decode cX5_sure 57 = .ok (.istore 6, 2) := by decide +kernel
theorem dX5_sure_59 : decode cX5_sure 59 = .ok (.iload_n 3, 1) := by decide +kernel
theorem dX5_sure_60 : decode cX5_sure 60 = .ok (.bipush (-9), 2) := by decide +kernel
theorem dX5_sure_62 : decode cX5_sure 62 = .ok (.if_icmp .eq 12, 3) := by decide +kernel
theorem dX5_sure_65 : decode cX5_sure 65 = .ok (.iload_n 3, 1) := by decide +kernel
theorem dX5_sure_66 : decode cX5_sure 66 = .ok (.iload 6, 2) := by decide +kernel
theorem dX5_sure_68 : decode cX5_sure 68 = .ok (.if_icmp .eq 6, 3) := by decide +kernel
theorem dX5_sure_71 : decode cX5_sure 71 = .ok (.bipush (-9), 2) := by decide +kernel
theorem dX5_sure_73 : decode cX5_sure 73 = .ok (.ireturn, 1) := by decide +kernel
theorem dX5_sure_74 : decode cX5_sure 74 = .ok (.iload 6, 2) := by decide +kernel
theorem dX5_sure_76 : decode cX5_sure 76 = .ok (.istore_n 3, 1) := by decide +kernel
theorem dX5_sure_77 : decode cX5_sure 77 = .ok (.iinc 5 1, 3) := by decide +kernel
theorem dX5_sure_80 : decode cX5_sure 80 = .ok (.goto (-45), 3) := by decide +kernel
theorem dX5_sure_83 : decode cX5_sure 83 = .ok (.iload_n 3, 1) := by decide +kernel
theorem dX5_sure_84 : decode cX5_sure 84 = .ok (.ireturn, 1) := by decide +kernel
set_option maxRecDepth 20000 in
theorem ggX5_likely_X5_isLength : GoodIn wsX5_likely wsX5_isLength := goodIn_r _ [4] (by decide +kernel) (by decide +kernel)
set_option maxRecDepth 20000 in
theorem gX5_likely_X5_isLength : GoodIn wsX5_likely (va_wsS RX5 146 yX5_isLength wsX5_isLength) := goodIn_app (goodIn_of _ (by decide +kernel)) ggX5_likely_X5_isLength
set_option maxRecDepth 20000 in
theorem ggX5_likely_X5_isWord : GoodIn wsX5_likely wsX5_isWord := goodIn_r _ [7] (by decide +kernel) (by decide +kernel)
set_option maxRecDepth 20000 in
theorem gX5_likely_X5_isWord : GoodIn wsX5_likely (va_wsS RX5 120 yX5_isWord wsX5_isWord) := goodIn_app (goodIn_of _ (by decide +kernel)) ggX5_likely_X5_isWord
set_option maxRecDepth 20000 in
theorem ggX5_likely_X4_endOf : GoodIn wsX5_likely wsX4_endOf := goodIn_r _ [11] (by decide +kernel) (by decide +kernel)
set_option maxRecDepth 20000 in
theorem gX5_likely_X4_endOf : GoodIn wsX5_likely (va_wsS RX5 150 yX4_endOf wsX4_endOf) := goodIn_app (goodIn_of _ (by decide +kernel)) ggX5_likely_X4_endOf
set_option maxRecDepth 20000 in
theorem ggX5_likely_X4_firstOf : GoodIn wsX5_likely wsX4_firstOf := goodIn_r _ [14] (by decide +kernel) (by decide +kernel)
set_option maxRecDepth 20000 in
theorem gX5_likely_X4_firstOf : GoodIn wsX5_likely (va_wsS RX5 153 yX4_firstOf wsX4_firstOf) := goodIn_app (goodIn_of _ (by decide +kernel)) ggX5_likely_X4_firstOf
set_option maxRecDepth 20000 in
theorem ggX5_likely_X5_isAsTold : GoodIn wsX5_likely wsX5_isAsTold := goodIn_r _ [18, 19, 20, 21, 22, 23, 24, 25, 26, 27, 28, 29, 30, 31, 32, 33, 34, 35, 36, 37, 38, 39, 40, 41, 42, 10, 43, 44, 45, 46, 47, 48, 49, 50, 51, 52, 68, 69, 70, 71, 72, 73, 74, 75, 76, 77, 78, 79, 80, 81, 82, 83] (by decide +kernel) (by decide +kernel)
set_option maxRecDepth 20000 in
theorem gX5_likely_X5_isAsTold : GoodIn wsX5_likely (wsV RX5 156 RX5 yX5_isAsTold wsX5_isAsTold) := goodIn_app (goodIn_of _ (by decide +kernel)) ggX5_likely_X5_isAsTold
set_option maxRecDepth 20000 in
theorem ggX5_likely_X4_wordOrNone : GoodIn wsX5_likely wsX4_wordOrNone := goodIn_r _ [55, 56, 42, 10, 43, 57, 45, 46] (by decide +kernel) (by decide +kernel)
set_option maxRecDepth 20000 in
theorem gX5_likely_X4_wordOrNone : GoodIn wsX5_likely (va_wsS RX5 116 yX4_wordOrNone wsX4_wordOrNone) := goodIn_app (goodIn_of _ (by decide +kernel)) ggX5_likely_X4_wordOrNone
set_option maxRecDepth 20000 in
theorem ggX5_likely_X5_partOfFraction : GoodIn wsX5_likely wsX5_partOfFraction := goodIn_r _ [60, 61, 62, 63, 64, 65, 66, 3, 67] (by decide +kernel) (by decide +kernel)
set_option maxRecDepth 20000 in
theorem gX5_likely_X5_partOfFraction : GoodIn wsX5_likely (va_wsS RX5 162 yX5_partOfFraction wsX5_partOfFraction) := goodIn_app (goodIn_of _ (by decide +kernel)) ggX5_likely_X5_partOfFraction
theorem dX5_likely_0 : decode cX5_likely 0 = .ok (.iload_n 1, 1) := by decide +kernel
theorem dX5_likely_1 : decode cX5_likely 1 = .ok (.iconst 1, 1) := by decide +kernel
theorem dX5_likely_2 : decode cX5_likely 2 = .ok (.invokestatic 146, 3) := by decide +kernel
theorem dX5_likely_5 : decode cX5_likely 5 = .ok (.ifCond .eq 19, 3) := by decide +kernel
theorem dX5_likely_8 : decode cX5_likely 8 = .ok (.iload_n 2, 1) := by decide +kernel
theorem dX5_likely_9 : decode cX5_likely 9 = .ok (.ifCond .lt 15, 3) := by decide +kernel
theorem dX5_likely_12 : decode cX5_likely 12 = .ok (.iload_n 2, 1) := by decide +kernel
theorem dX5_likely_13 : decode cX5_likely 13 = .ok (.iload_n 1, 1) := by decide +kernel
theorem dX5_likely_14 : decode cX5_likely 14 = .ok (.if_icmp .ge 10, 3) := by decide +kernel
theorem dX5_likely_17 : decode cX5_likely 17 = .ok (.iload_n 3, 1) := by decide +kernel
theorem dX5_likely_18 : decode cX5_likely 18 = .ok (.invokestatic 120, 3) := by decide +kernel
theorem dX5_likely_21 : decode cX5_likely 21 = .ok (.ifCond .ne 6, 3) := by decide +kernel
theorem dX5_likely_24 : decode cX5_likely 24 = .ok (.bipush (-2), 2) := by decide +kernel
theorem dX5_likely_26 : decode cX5_likely 26 = .ok (.ireturn, 1) := by decide +kernel
theorem dX5_likely_27 : decode cX5_likely 27 = .ok (.iconst 0, 1) := by decide +kernel
theorem dX5_likely_28 : decode cX5_likely 28 = .ok (.istore 5, 2) := by decide +kernel
theorem dX5_likely_30 : decode cX5_likely 30 = .ok (.iconst 0, 1) := by decide +kernel
theorem dX5_likely_31 : decode cX5_likely 31 = .ok (.istore 6, 2) := by decide +kernel
theorem dX5_likely_33 : decode cX5_likely 33 = .ok (.iload_n 1, 1) := by decide +kernel
theorem dX5_likely_34 : decode cX5_likely 34 = .ok (.invokestatic 150, 3) := by decide +kernel
theorem dX5_likely_37 : decode cX5_likely 37 = .ok (.istore 7, 2) := by decide +kernel
theorem dX5_likely_39 : decode cX5_likely 39 = .ok (.iload_n 1, 1) := by decide +kernel
theorem dX5_likely_40 : decode cX5_likely 40 = .ok (.invokestatic 153, 3) := by decide +kernel
theorem dX5_likely_43 : decode cX5_likely 43 = .ok (.istore 8, 2) := by decide +kernel
theorem dX5_likely_45 : decode cX5_likely 45 = .ok (.iload 8, 2) := by decide +kernel
theorem dX5_likely_47 : decode cX5_likely 47 = .ok (.iload 7, 2) := by decide +kernel
theorem dX5_likely_49 : decode cX5_likely 49 = .ok (.if_icmp .ge 34, 3) := by decide +kernel
theorem dX5_likely_52 : decode cX5_likely 52 = .ok (.aload_n 0, 1) := by decide +kernel
theorem dX5_likely_53 : decode cX5_likely 53 = .ok (.iload 8, 2) := by decide +kernel
theorem dX5_likely_55 : decode cX5_likely 55 = .ok (.invokevirtual 156, 3) := by decide +kernel
theorem dX5_likely_58 : decode cX5_likely 58 = .ok (.ifCond .eq 19, 3) := by decide +kernel
theorem dX5_likely_61 : decode cX5_likely 61 = .ok (.iinc 5 1, 3) := by decide +kernel
theorem dX5_likely_64 : decode cX5_likely 64 = .ok (.iload 8, 2) := by decide +kernel
theorem dX5_likely_66 : decode cX5_likely 66 = .ok (.iload_n 2, 1) := by decide +kernel
theorem dX5_likely_67 : decode cX5_likely 67 = .ok (.invokestatic 116, 3) := by decide +kernel
theorem dX5_likely_70 : decode cX5_likely 70 = .ok (.iload_n 3, 1) := by decide +kernel
theorem dX5_likely_71 : decode cX5_likely 71 = .ok (.if_icmp .ne 6, 3) := by decide +kernel
theorem dX5_likely_74 : decode cX5_likely 74 = .ok (.iinc 6 1, 3) := by decide +kernel
theorem dX5_likely_77 : decode cX5_likely 77 = .ok (.iinc 8 1, 3) := by decide +kernel
theorem dX5_likely_80 : decode cX5_likely 80 = .ok (.goto (-35), 3) := by decide +kernel
theorem dX5_likely_83 : decode cX5_likely 83 = .ok (.iload 5, 2) := by decide +kernel
theorem dX5_likely_85 : decode cX5_likely 85 = .ok (.ifCond .ne 8, 3) := by decide +kernel
theorem dX5_likely_88 : decode cX5_likely 88 = .ok (.bipush (-3), 2) := by decide +kernel
theorem dX5_likely_90 : decode cX5_likely 90 = .ok (.goto 12, 3) := by decide +kernel
theorem dX5_likely_93 : decode cX5_likely 93 = .ok (.iload 6, 2) := by decide +kernel
theorem dX5_likely_95 : decode cX5_likely 95 = .ok (.iload 5, 2) := by decide +kernel
theorem dX5_likely_97 : decode cX5_likely 97 = .ok (.iload 4, 2) := by decide +kernel
theorem dX5_likely_99 : decode cX5_likely 99 = .ok (.invokestatic 162, 3) := by decide +kernel
theorem dX5_likely_102 : decode cX5_likely 102 = .ok (.ireturn, 1) := by decide +kernel
set_option maxRecDepth 20000 in
theorem ggX5_toRead_X5_isLength : GoodIn wsX5_toRead wsX5_isLength := goodIn_r _ [7] (by decide +kernel) (by decide +kernel)
set_option maxRecDepth 20000 in
theorem gX5_toRead_X5_isLength : GoodIn wsX5_toRead (va_wsS RX5 146 yX5_isLength wsX5_isLength) := goodIn_app (goodIn_of _ (by decide +kernel)) ggX5_toRead_X5_isLength
set_option maxRecDepth 20000 in
theorem ggX5_toRead_X5_mostAlike : GoodIn wsX5_toRead wsX5_mostAlike := goodIn_r _ [11, 12, 1, 13, 14, 15, 16, 17, 18, 19, 20, 21, 22, 23, 24, 25, 26, 27, 28, 29, 30, 31, 32, 33, 34, 35, 36, 37, 6, 38, 2, 3, 39, 40, 41, 42, 43, 44, 45, 46, 47, 48, 49, 50, 51, 52, 53, 54, 55, 56, 57, 58, 59, 60, 61, 62, 63, 64, 65, 66, 67, 68, 69, 70, 71, 72, 73, 74, 75, 76, 77, 78, 79, 80, 81, 82, 83, 84, 85, 86, 87, 88, 89] (by decide +kernel) (by decide +kernel)
set_option maxRecDepth 20000 in
theorem gX5_toRead_X5_mostAlike : GoodIn wsX5_toRead (wsV RX5 166 RX5 yX5_mostAlike wsX5_mostAlike) := goodIn_app (goodIn_of _ (by decide +kernel)) ggX5_toRead_X5_mostAlike
theorem dX5_toRead_0 : decode cX5_toRead 0 = .ok (.iload_n 1, 1) := by decide +kernel
theorem dX5_toRead_1 : decode cX5_toRead 1 = .ok (.iconst 0, 1) := by decide +kernel
theorem dX5_toRead_2 : decode cX5_toRead 2 = .ok (.invokestatic 146, 3) := by decide +kernel
theorem dX5_toRead_5 : decode cX5_toRead 5 = .ok (.ifCond .ne 6, 3) := by decide +kernel
theorem dX5_toRead_8 : decode cX5_toRead 8 = .ok (.bipush (-2), 2) := by decide +kernel
theorem dX5_toRead_10 : decode cX5_toRead 10 = .ok (.ireturn, 1) := by decide +kernel
theorem dX5_toRead_11 : decode cX5_toRead 11 = .ok (.bipush (-9), 2) := by decide +kernel
theorem dX5_toRead_13 : decode cX5_toRead 13 = .ok (.istore_n 2, 1) := by decide +kernel
theorem dX5_toRead_14 : decode cX5_toRead 14 = .ok (.iconst 0, 1) := by decide +kernel
theorem dX5_toRead_15 : decode cX5_toRead 15 = .ok (.istore_n 3, 1) := by decide +kernel
theorem dX5_toRead_16 : decode cX5_toRead 16 = .ok (.iconst 0, 1) := by decide +kernel
theorem dX5_toRead_17 : decode cX5_toRead 17 = .ok (.istore 4, 2) := by decide +kernel
theorem dX5_toRead_19 : decode cX5_toRead 19 = .ok (.iload 4, 2) := by decide +kernel
theorem dX5_toRead_21 : decode cX5_toRead 21 = .ok (.aload_n 0, 1) := by decide +kernel
theorem dX5_toRead_22 : decode cX5_toRead 22 = .ok (.getfield 19, 3) := by decide +kernel
theorem dX5_toRead_25 : decode cX5_toRead 25 = .ok (.getfield 83, 3) := by decide +kernel
theorem dX5_toRead_28 : decode cX5_toRead 28 = .ok (.if_icmp .ge 55, 3) := by decide +kernel
theorem dX5_toRead_31 : decode cX5_toRead 31 = .ok (.aload_n 0, 1) := by decide +kernel
theorem dX5_toRead_32 : decode cX5_toRead 32 = .ok (.getfield 37, 3) := by decide +kernel
theorem dX5_toRead_35 : decode cX5_toRead 35 = .ok (.iload 4, 2) := by decide +kernel
theorem dX5_toRead_37 : decode cX5_toRead 37 = .ok (.iaload, 1) := by decide +kernel
theorem dX5_toRead_38 : decode cX5_toRead 38 = .ok (.ifCond .ne 13, 3) := by decide +kernel
theorem dX5_toRead_41 : decode cX5_toRead 41 = .ok (.aload_n 0, 1) := by decide +kernel
theorem dX5_toRead_42 : decode cX5_toRead 42 = .ok (.iload_n 1, 1) := by decide +kernel
theorem dX5_toRead_43 : decode cX5_toRead 43 = .ok (.iload 4, 2) := by decide +kernel
theorem dX5_toRead_45 : decode cX5_toRead 45 = .ok (.invokevirtual 166, 3) := by decide +kernel
theorem dX5_toRead_48 : decode cX5_toRead 48 = .ok (.goto 4, 3) := by decide +kernel
theorem dX5_toRead_51 : decode cX5_toRead 51 = .ok (.iconst 0, 1) := by decide +kernel
theorem dX5_toRead_52 : decode cX5_toRead 52 = .ok (.istore 5, 2) := by decide +kernel
theorem dX5_toRead_54 : decode cX5_toRead 54 = .ok (.iload 5, 2) := by decide +kernel
theorem dX5_toRead_56 : decode cX5_toRead 56 = .ok (.ifCond .le 21, 3) := by decide +kernel
theorem dX5_toRead_59 : decode cX5_toRead 59 = .ok (.iload_n 2, 1) := by decide +kernel
theorem dX5_toRead_60 : decode cX5_toRead 60 = .ok (.bipush (-9), 2) := by decide +kernel
theorem dX5_toRead_62 : decode cX5_toRead 62 = .ok (.if_icmp .eq 9, 3) := by decide +kernel
theorem dX5_toRead_65 : decode cX5_toRead 65 = .ok (.iload 5, 2) := by decide +kernel
theorem dX5_toRead_67 : decode cX5_toRead 67 = .ok (.iload_n 3, 1) := by decide +kernel
theorem dX5_toRead_68 : decode cX5_toRead 68 = .ok (.if_icmp .ge 9, 3) := by decide +kernel
theorem dX5_toRead_71 : decode cX5_toRead 71 = .ok (.iload 4, 2) := by decide +kernel
theorem dX5_toRead_73 : decode cX5_toRead 73 = .ok (.istore_n 2, 1) := by decide +kernel
theorem dX5_toRead_74 : decode cX5_toRead 74 = .ok (.iload 5, 2) := by decide +kernel
theorem dX5_toRead_76 : decode cX5_toRead 76 = .ok (.istore_n 3, 1) := by decide +kernel
theorem dX5_toRead_77 : decode cX5_toRead 77 = .ok (.iinc 4 1, 3) := by decide +kernel
theorem dX5_toRead_80 : decode cX5_toRead 80 = .ok (.goto (-61), 3) := by decide +kernel
theorem dX5_toRead_83 : decode cX5_toRead 83 = .ok (.iload_n 2, 1) := by decide +kernel
theorem dX5_toRead_84 : decode cX5_toRead 84 = .ok (.ireturn, 1) := by decide +kernel
set_option maxRecDepth 20000 in
theorem ggX5_habits_X1_has : GoodIn wsX5_habits wsX1_has := goodIn_r _ [7, 8, 52, 53, 54, 55, 56, 57, 58] (by decide +kernel) (by decide +kernel)
set_option maxRecDepth 20000 in
theorem gX5_habits_X1_has : GoodIn wsX5_habits (wsV RX5 84 RX1 yX1_has wsX1_has) := goodIn_app (goodIn_of _ (by decide +kernel)) ggX5_habits_X1_has
set_option maxRecDepth 20000 in
theorem ggX5_habits_X5_habitGives : GoodIn wsX5_habits wsX5_habitGives := goodIn_r _ [13, 14, 15, 16, 12, 17, 18, 19, 20, 21, 22, 23, 24, 25, 26, 27, 28, 6, 29, 30, 31, 32, 33, 34, 35, 36, 37, 38, 39, 40, 41, 42, 43, 44, 45, 46, 47, 48, 49, 50, 51] (by decide +kernel) (by decide +kernel)
set_option maxRecDepth 20000 in
theorem gX5_habits_X5_habitGives : GoodIn wsX5_habits (wsV RX5 169 RX5 yX5_habitGives wsX5_habitGives) := goodIn_app (goodIn_of _ (by decide +kernel)) ggX5_habits_X5_habitGives
theorem dX5_habits_0 : decode cX5_habits 0 = .ok (.aload_n 0, 1) := by decide +kernel
theorem dX5_habits_1 : decode cX5_habits 1 = .ok (.getfield 19, 3) := by decide +kernel
theorem dX5_habits_4 : decode cX5_habits 4 = .ok (.iload_n 1, 1) := by decide +kernel
theorem dX5_habits_5 : decode cX5_habits 5 = .ok (.invokevirtual 84, 3) := by decide +kernel
theorem dX5_habits_8 : decode cX5_habits 8 = .ok (.ifCond .ne 5, 3) := by decide +kernel
theorem dX5_habits_11 : decode cX5_habits 11 = .ok (.iconst (-1), 1) := by decide +kernel
theorem dX5_habits_12 : decode cX5_habits 12 = .ok (.ireturn, 1) := by decide +kernel
theorem dX5_habits_13 : decode cX5_habits 13 = .ok (.aload_n 0, 1) := by decide +kernel
theorem dX5_habits_14 : decode cX5_habits 14 = .ok (.getfield 37, 3) := by decide +kernel
theorem dX5_habits_17 : decode cX5_habits 17 = .ok (.iload_n 1, 1) := by decide +kernel
theorem dX5_habits_18 : decode cX5_habits 18 = .ok (.iaload, 1) := by decide +kernel
theorem dX5_habits_19 : decode cX5_habits 19 = .ok (.ifCond .ne 6, 3) := by decide +kernel
theorem dX5_habits_22 : decode cX5_habits 22 = .ok (.bipush (-3), 2) := by decide +kernel
theorem dX5_habits_24 : decode cX5_habits 24 = .ok (.ireturn, 1) := by decide +kernel
theorem dX5_habits_25 : decode cX5_habits 25 = .ok (.iconst 0, 1) := by decide +kernel
theorem dX5_habits_26 : decode cX5_habits 26 = .ok (.istore_n 2, 1) := by decide +kernel
theorem dX5_habits_27 : decode cX5_habits 27 = .ok (.iconst 0, 1) := by decide +kernel
theorem dX5_habits_28 : decode cX5_habits 28 = .ok (.istore_n 3, 1) := by decide +kernel
theorem dX5_habits_29 : decode cX5_habits 29 = .ok (.iload_n 3, 1) := by decide +kernel
theorem dX5_habits_30 : decode cX5_habits 30 = .ok (.sipush 1250, 3) := by decide +kernel
theorem dX5_habits_33 : decode cX5_habits 33 = .ok (.if_icmp .ge 26, 3) := by decide +kernel
theorem dX5_habits_36 : decode cX5_habits 36 = .ok (.aload_n 0, 1) := by decide +kernel
theorem dX5_habits_37 : decode cX5_habits 37 = .ok (.iload_n 3, 1) := by decide +kernel
theorem dX5_habits_38 : decode cX5_habits 38 = .ok (.aload_n 0, 1) := by decide +kernel
theorem dX5_habits_39 : decode cX5_habits 39 = .ok (.getfield 37, 3) := by decide +kernel
theorem dX5_habits_42 : decode cX5_habits 42 = .ok (.iload_n 1, 1) := by decide +kernel
theorem dX5_habits_43 : decode cX5_habits 43 = .ok (.iaload, 1) := by decide +kernel
theorem dX5_habits_44 : decode cX5_habits 44 = .ok (.invokevirtual 169, 3) := by decide +kernel
theorem dX5_habits_47 : decode cX5_habits 47 = .ok (.ifCond .eq 6, 3) := by decide +kernel
theorem dX5_habits_50 : decode cX5_habits 50 = .ok (.iinc 2 1, 3) := by decide +kernel
theorem dX5_habits_53 : decode cX5_habits 53 = .ok (.iinc 3 1, 3) := by decide +kernel
theorem dX5_habits_56 : decode cX5_habits 56 = .ok (.goto (-27), 3) := by decide +kernel
theorem dX5_habits_59 : decode cX5_habits 59 = .ok (.iload_n 2, 1) := by decide +kernel
theorem dX5_habits_60 : decode cX5_habits 60 = .ok (.ireturn, 1) := by decide +kernel
set_option maxRecDepth 20000 in
theorem ggX5_habit_X1_has : GoodIn wsX5_habit wsX1_has := goodIn_r _ [7, 8, 52, 53, 54, 55, 56, 57, 58] (by decide +kernel) (by decide +kernel)
set_option maxRecDepth 20000 in
theorem gX5_habit_X1_has : GoodIn wsX5_habit (wsV RX5 84 RX1 yX1_has wsX1_has) := goodIn_app (goodIn_of _ (by decide +kernel)) ggX5_habit_X1_has
set_option maxRecDepth 20000 in
theorem ggX5_habit_X5_habitGives : GoodIn wsX5_habit wsX5_habitGives := goodIn_r _ [13, 14, 15, 16, 12, 17, 18, 19, 20, 21, 22, 23, 24, 25, 26, 27, 28, 6, 29, 30, 31, 32, 33, 34, 35, 36, 37, 38, 39, 40, 41, 42, 43, 44, 45, 46, 47, 48, 49, 50, 51] (by decide +kernel) (by decide +kernel)
set_option maxRecDepth 20000 in
theorem gX5_habit_X5_habitGives : GoodIn wsX5_habit (wsV RX5 169 RX5 yX5_habitGives wsX5_habitGives) := goodIn_app (goodIn_of _ (by decide +kernel)) ggX5_habit_X5_habitGives
set_option maxRecDepth 20000 in
theorem ggX5_habit_X5_dropsOf : GoodIn wsX5_habit wsX5_dropsOf := goodIn_r _ [23] (by decide +kernel) (by decide +kernel)
set_option maxRecDepth 20000 in
theorem gX5_habit_X5_dropsOf : GoodIn wsX5_habit (va_wsS RX5 172 yX5_dropsOf wsX5_dropsOf) := goodIn_app (goodIn_of _ (by decide +kernel)) ggX5_habit_X5_dropsOf
set_option maxRecDepth 20000 in
theorem ggX5_habit_X5_fromOf : GoodIn wsX5_habit wsX5_fromOf := goodIn_r _ [17] (by decide +kernel) (by decide +kernel)
set_option maxRecDepth 20000 in
theorem gX5_habit_X5_fromOf : GoodIn wsX5_habit (va_wsS RX5 175 yX5_fromOf wsX5_fromOf) := goodIn_app (goodIn_of _ (by decide +kernel)) ggX5_habit_X5_fromOf
set_option maxRecDepth 20000 in
theorem ggX5_habit_X5_toOf : GoodIn wsX5_habit wsX5_toOf := goodIn_r _ [20] (by decide +kernel) (by decide +kernel)
set_option maxRecDepth 20000 in
theorem gX5_habit_X5_toOf : GoodIn wsX5_habit (va_wsS RX5 178 yX5_toOf wsX5_toOf) := goodIn_app (goodIn_of _ (by decide +kernel)) ggX5_habit_X5_toOf
set_option maxRecDepth 20000 in
theorem ggX5_habit_X5_tiresOf : GoodIn wsX5_habit wsX5_tiresOf := goodIn_r _ [26] (by decide +kernel) (by decide +kernel)
set_option maxRecDepth 20000 in
theorem gX5_habit_X5_tiresOf : GoodIn wsX5_habit (va_wsS RX5 181 yX5_tiresOf wsX5_tiresOf) := goodIn_app (goodIn_of _ (by decide +kernel)) ggX5_habit_X5_tiresOf
theorem dX5_habit_0 : decode cX5_habit 0 = .ok (.aload_n 0, 1) := by decide +kernel
theorem dX5_habit_1 : decode cX5_habit 1 = .ok (.getfield 19, 3) := by decide +kernel
theorem dX5_habit_4 : decode cX5_habit 4 = .ok (.iload_n 1, 1) := by decide +kernel
theorem dX5_habit_5 : decode cX5_habit 5 = .ok (.invokevirtual 84, 3) := by decide +kernel
theorem dX5_habit_8 : decode cX5_habit 8 = .ok (.ifCond .ne 5, 3) := by decide +kernel
theorem dX5_habit_11 : decode cX5_habit 11 = .ok (.iconst (-1), 1) := by decide +kernel
theorem dX5_habit_12 : decode cX5_habit 12 = .ok (.ireturn, 1) := by decide +kernel
theorem dX5_habit_13 : decode cX5_habit 13 = .ok (.aload_n 0, 1) := by decide +kernel
theorem dX5_habit_14 : decode cX5_habit 14 = .ok (.getfield 37, 3) := by decide +kernel
theorem dX5_habit_17 : decode cX5_habit 17 = .ok (.iload_n 1, 1) := by decide +kernel
theorem dX5_habit_18 : decode cX5_habit 18 = .ok (.iaload, 1) := by decide +kernel
theorem dX5_habit_19 : decode cX5_habit 19 = .ok (.ifCond .ne 6, 3) := by decide +kernel
theorem dX5_habit_22 : decode cX5_habit 22 = .ok (.bipush (-3), 2) := by decide +kernel
theorem dX5_habit_24 : decode cX5_habit 24 = .ok (.ireturn, 1) := by decide +kernel
theorem dX5_habit_25 : decode cX5_habit 25 = .ok (.iconst 0, 1) := by decide +kernel
theorem dX5_habit_26 : decode cX5_habit 26 = .ok (.istore_n 2, 1) := by decide +kernel
theorem dX5_habit_27 : decode cX5_habit 27 = .ok (.iload_n 2, 1) := by decide +kernel
theorem dX5_habit_28 : decode cX5_habit 28 = .ok (.sipush 1250, 3) := by decide +kernel
theorem dX5_habit_31 : decode cX5_habit 31 = .ok (.if_icmp .ge 53, 3) := by decide +kernel
theorem dX5_habit_34 : decode cX5_habit 34 = .ok (.aload_n 0, 1) := by decide +kernel
theorem dX5_habit_35 : decode cX5_habit 35 = .ok (.iload_n 2, 1) := by decide +kernel
theorem dX5_habit_36 : decode cX5_habit 36 = .ok (.aload_n 0, 1) := by decide +kernel
theorem dX5_habit_37 : decode cX5_habit 37 = .ok (.getfield 37, 3) := by decide +kernel
theorem dX5_habit_40 : decode cX5_habit 40 = .ok (.iload_n 1, 1) := by decide +kernel
theorem dX5_habit_41 : decode cX5_habit 41 = .ok (.iaload, 1) := by decide +kernel
theorem dX5_habit_42 : decode cX5_habit 42 = .ok (.invokevirtual 169, 3) := by decide +kernel
theorem dX5_habit_45 : decode cX5_habit 45 = .ok (.ifCond .eq 33, 3) := by decide +kernel
theorem dX5_habit_48 : decode cX5_habit 48 = .ok (.sipush 1000, 3) := by decide +kernel
theorem dX5_habit_51 : decode cX5_habit 51 = .ok (.iload_n 2, 1) := by decide +kernel
theorem dX5_habit_52 : decode cX5_habit 52 = .ok (.invokestatic 172, 3) := by decide +kernel
theorem dX5_habit_55 : decode cX5_habit 55 = .ok (.imul, 1) := by decide +kernel
theorem dX5_habit_56 : decode cX5_habit 56 = .ok (.bipush 100, 2) := by decide +kernel
theorem dX5_habit_58 : decode cX5_habit 58 = .ok (.iload_n 2, 1) := by decide +kernel
theorem dX5_habit_59 : decode cX5_habit 59 = .ok (.invokestatic 175, 3) := by decide +kernel
theorem dX5_habit_62 : decode cX5_habit 62 = .ok (.imul, 1) := by decide +kernel
theorem dX5_habit_63 : decode cX5_habit 63 = .ok (.iadd, 1) := by decide +kernel
theorem dX5_habit_64 : decode cX5_habit 64 = .ok (.bipush 10, 2) := by decide +kernel
theorem dX5_habit_66 : decode cX5_habit 66 = .ok (.iload_n 2, 1) := by decide +kernel
theorem dX5_habit_67 : decode cX5_habit 67 = .ok (.invokestatic 178, 3) := by decide +kernel
theorem dX5_habit_70 : decode cX5_habit 70 = .ok (.imul, 1) := by decide +kernel
theorem dX5_habit_71 : decode cX5_habit 71 = .ok (.iadd, 1) := by decide +kernel
theorem dX5_habit_72 : decode cX5_habit 72 = .ok (.iload_n 2, 1) := by decide +kernel
theorem dX5_habit_73 : decode cX5_habit 73 = .ok (.invokestatic 181, 3) := by decide +kernel
theorem dX5_habit_76 : decode cX5_habit 76 = .ok (.iadd, 1) := by decide +kernel
theorem dX5_habit_77 : decode cX5_habit 77 = .ok (.ireturn, 1) := by decide +kernel
theorem dX5_habit_78 : decode cX5_habit 78 = .ok (.iinc 2 1, 3) := by decide +kernel
theorem dX5_habit_81 : decode cX5_habit 81 = .ok (.goto (-54), 3) := by decide +kernel
theorem dX5_habit_84 : decode cX5_habit 84 = .ok (.bipush (-9), 2) := by decide +kernel
theorem dX5_habit_86 : decode cX5_habit 86 = .ok (.ireturn, 1) := by decide +kernel
set_option maxRecDepth 20000 in
theorem ggX5_copied_X1_has : GoodIn wsX5_copied wsX1_has := goodIn_r _ [10, 11, 61, 62, 63, 64, 65, 66, 67] (by decide +kernel) (by decide +kernel)
set_option maxRecDepth 20000 in
theorem gX5_copied_X1_has : GoodIn wsX5_copied (wsV RX5 84 RX1 yX1_has wsX1_has) := goodIn_app (goodIn_of _ (by decide +kernel)) ggX5_copied_X1_has
set_option maxRecDepth 20000 in
theorem ggX5_copied_X1_takeDown : GoodIn wsX5_copied wsX1_takeDown := goodIn_r _ [15, 11, 16, 17, 18, 9, 19, 20, 21, 22, 23, 24, 25, 26, 27, 28, 29, 30, 31, 32, 33, 34, 35, 36, 37, 38, 39, 40, 41, 42, 43, 44, 45, 61, 62, 63, 64, 65, 66, 67] (by decide +kernel) (by decide +kernel)
set_option maxRecDepth 20000 in
theorem gX5_copied_X1_takeDown : GoodIn wsX5_copied (wsV RX5 184 RX1 yX1_takeDown wsX1_takeDown) := goodIn_app (goodIn_of _ (by decide +kernel)) ggX5_copied_X1_takeDown
set_option maxRecDepth 20000 in
theorem ggX5_copied_X1_pageFrom : GoodIn wsX5_copied wsX1_pageFrom := goodIn_r _ [25, 26, 27, 28, 29, 30, 31, 9, 32, 33, 34, 35, 36, 37, 38, 39, 40, 41, 42, 43, 44, 45, 61, 62, 63, 64, 65, 66, 67] (by decide +kernel) (by decide +kernel)
set_option maxRecDepth 20000 in
theorem gX5_copied_X1_pageFrom : GoodIn wsX5_copied (wsV RX5 187 RX1 yX1_pageFrom wsX1_pageFrom) := goodIn_app (goodIn_of _ (by decide +kernel)) ggX5_copied_X1_pageFrom
set_option maxRecDepth 20000 in
theorem ggX5_copied_X1_hangsOn : GoodIn wsX5_copied wsX1_hangsOn := goodIn_r _ [50, 20, 51, 7, 8, 9, 10, 11, 61, 62, 63, 64, 65, 66, 67] (by decide +kernel) (by decide +kernel)
set_option maxRecDepth 20000 in
theorem gX5_copied_X1_hangsOn : GoodIn wsX5_copied (wsV RX5 190 RX1 yX1_hangsOn wsX1_hangsOn) := goodIn_app (goodIn_of _ (by decide +kernel)) ggX5_copied_X1_hangsOn
theorem dX5_copied_0 : decode cX5_copied 0 = .ok (.aload_n 0, 1) := by decide +kernel
theorem dX5_copied_1 : decode cX5_copied 1 = .ok (.getfield 19, 3) := by decide +kernel
theorem dX5_copied_4 : decode cX5_copied 4 = .ok (.iload_n 1, 1) := by decide +kernel
theorem dX5_copied_5 : decode cX5_copied 5 = .ok (.invokevirtual 84, 3) := by decide +kernel
theorem dX5_copied_8 : decode cX5_copied 8 = .ok (.ifCond .ne 5, 3) := by decide +kernel
theorem dX5_copied_11 : decode cX5_copied 11 = .ok (.iconst (-1), 1) := by decide +kernel
theorem dX5_copied_12 : decode cX5_copied 12 = .ok (.ireturn, 1) := by decide +kernel
theorem dX5_copied_13 : decode cX5_copied 13 = .ok (.aload_n 0, 1) := by decide +kernel
theorem dX5_copied_14 : decode cX5_copied 14 = .ok (.getfield 37, 3) := by decide +kernel
theorem dX5_copied_17 : decode cX5_copied 17 = .ok (.iload_n 1, 1) := by decide +kernel
theorem dX5_copied_18 : decode cX5_copied 18 = .ok (.iaload, 1) := by decide +kernel
theorem dX5_copied_19 : decode cX5_copied 19 = .ok (.ifCond .ne 6, 3) := by decide +kernel
theorem dX5_copied_22 : decode cX5_copied 22 = .ok (.bipush (-3), 2) := by decide +kernel
theorem dX5_copied_24 : decode cX5_copied 24 = .ok (.ireturn, 1) := by decide +kernel
theorem dX5_copied_25 : decode cX5_copied 25 = .ok (.aload_n 0, 1) := by decide +kernel
theorem dX5_copied_26 : decode cX5_copied 26 = .ok (.getfield 19, 3) := by decide +kernel
theorem dX5_copied_29 : decode cX5_copied 29 = .ok (.aload_n 0, 1) := by decide +kernel
theorem dX5_copied_30 : decode cX5_copied 30 = .ok (.getfield 50, 3) := by decide +kernel
theorem dX5_copied_33 : decode cX5_copied 33 = .ok (.invokevirtual 184, 3) := by decide +kernel
theorem dX5_copied_36 : decode cX5_copied 36 = .ok (.aload_n 0, 1) := by decide +kernel
theorem dX5_copied_37 : decode cX5_copied 37 = .ok (.getfield 19, 3) := by decide +kernel
theorem dX5_copied_40 : decode cX5_copied 40 = .ok (.iload_n 1, 1) := by decide +kernel
theorem dX5_copied_41 : decode cX5_copied 41 = .ok (.aload_n 0, 1) := by decide +kernel
theorem dX5_copied_42 : decode cX5_copied 42 = .ok (.getfield 50, 3) := by decide +kernel
theorem dX5_copied_45 : decode cX5_copied 45 = .ok (.invokevirtual 187, 3) := by decide +kernel
theorem dX5_copied_48 : decode cX5_copied 48 = .ok (.aload_n 0, 1) := by decide +kernel
theorem dX5_copied_49 : decode cX5_copied 49 = .ok (.getfield 37, 3) := by decide +kernel
theorem dX5_copied_52 : decode cX5_copied 52 = .ok (.iload_n 1, 1) := by decide +kernel
theorem dX5_copied_53 : decode cX5_copied 53 = .ok (.iaload, 1) := by decide +kernel
theorem dX5_copied_54 : decode cX5_copied 54 = .ok (.if_icmp .ne 8, 3) := by decide +kernel
theorem dX5_copied_57 : decode cX5_copied 57 = .ok (.bipush 16, 2) := by decide +kernel
theorem dX5_copied_59 : decode cX5_copied 59 = .ok (.goto 4, 3) := by decide +kernel
theorem dX5_copied_62 : decode cX5_copied 62 = .ok (.iconst 0, 1) := by decide +kernel
theorem dX5_copied_63 : decode cX5_copied 63 = .ok (.istore_n 2, 1) := by decide +kernel
theorem dX5_copied_64 : decode cX5_copied 64 = .ok (.iconst 0, 1) := by decide +kernel
theorem dX5_copied_65 : decode cX5_copied 65 = .ok (.istore_n 3, 1) := by decide +kernel
theorem dX5_copied_66 : decode cX5_copied 66 = .ok (.iload_n 3, 1) := by decide +kernel
theorem dX5_copied_67 : decode cX5_copied 67 = .ok (.aload_n 0, 1) := by decide +kernel
theorem dX5_copied_68 : decode cX5_copied 68 = .ok (.getfield 19, 3) := by decide +kernel
theorem dX5_copied_71 : decode cX5_copied 71 = .ok (.getfield 83, 3) := by decide +kernel
theorem dX5_copied_74 : decode cX5_copied 74 = .ok (.if_icmp .ge 53, 3) := by decide +kernel
theorem dX5_copied_77 : decode cX5_copied 77 = .ok (.aload_n 0, 1) := by decide +kernel
theorem dX5_copied_78 : decode cX5_copied 78 = .ok (.getfield 19, 3) := by decide +kernel
theorem dX5_copied_81 : decode cX5_copied 81 = .ok (.iload_n 3, 1) := by decide +kernel
theorem dX5_copied_82 : decode cX5_copied 82 = .ok (.iload_n 1, 1) := by decide +kernel
theorem dX5_copied_83 : decode cX5_copied 83 = .ok (.invokevirtual 190, 3) := by decide +kernel
theorem dX5_copied_86 : decode cX5_copied 86 = .ok (.ifCond .ne 35, 3) := by decide +kernel
theorem dX5_copied_89 : decode cX5_copied 89 = .ok (.aload_n 0, 1) := by decide +kernel
theorem dX5_copied_90 : decode cX5_copied 90 = .ok (.getfield 19, 3) := by decide +kernel
theorem dX5_copied_93 : decode cX5_copied 93 = .ok (.iload_n 1, 1) := by decide +kernel
theorem dX5_copied_94 : decode cX5_copied 94 = .ok (.aload_n 0, 1) := by decide +kernel
theorem dX5_copied_95 : decode cX5_copied 95 = .ok (.getfield 19, 3) := by decide +kernel
theorem dX5_copied_98 : decode cX5_copied 98 = .ok (.getfield 193, 3) := by decide +kernel
theorem dX5_copied_101 : decode cX5_copied 101 = .ok (.iload_n 3, 1) := by decide +kernel
theorem dX5_copied_102 : decode cX5_copied 102 = .ok (.iaload, 1) := by decide +kernel
theorem dX5_copied_103 : decode cX5_copied 103 = .ok (.invokevirtual 187, 3) := by decide +kernel
theorem dX5_copied_106 : decode cX5_copied 106 = .ok (.aload_n 0, 1) := by decide +kernel
theorem dX5_copied_107 : decode cX5_copied 107 = .ok (.getfield 37, 3) := by decide +kernel
theorem dX5_copied_110 : decode cX5_copied 110 = .ok (.iload_n 1, 1) := by decide +kernel
theorem dX5_copied_111 : decode cX5_copied 111 = .ok (.iaload, 1) := by decide +kernel
theorem dX5_copied_112 : decode cX5_copied 112 = .ok (.if_icmp .ne 9, 3) := by decide +kernel
theorem dX5_copied_115 : decode cX5_copied 115 = .ok (.iload_n 2, 1) := by decide +kernel
theorem dX5_copied_116 : decode cX5_copied 116 = .ok (.iconst 1, 1) := by decide +kernel
theorem dX5_copied_117 : decode cX5_copied 117 = .ok (.iload_n 3, 1) := by decide +kernel
theorem dX5_copied_118 : decode cX5_copied 118 = .ok (.ishl, 1) := by decide +kernel
theorem dX5_copied_119 : decode cX5_copied 119 = .ok (.ior, 1) := by decide +kernel
theorem dX5_copied_120 : decode cX5_copied 120 = .ok (.istore_n 2, 1) := by decide +kernel
theorem dX5_copied_121 : decode cX5_copied 121 = .ok (.iinc 3 1, 3) := by decide +kernel
theorem dX5_copied_124 : decode cX5_copied 124 = .ok (.goto (-58), 3) := by decide +kernel
theorem dX5_copied_127 : decode cX5_copied 127 = .ok (.iload_n 2, 1) := by decide +kernel
theorem dX5_copied_128 : decode cX5_copied 128 = .ok (.ireturn, 1) := by decide +kernel
set_option maxRecDepth 20000 in
theorem ggX5_leaves_X1_has : GoodIn wsX5_leaves wsX1_has := goodIn_r _ [7, 8, 75, 76, 77, 78, 79, 80, 81] (by decide +kernel) (by decide +kernel)
set_option maxRecDepth 20000 in
theorem gX5_leaves_X1_has : GoodIn wsX5_leaves (wsV RX5 84 RX1 yX1_has wsX1_has) := goodIn_app (goodIn_of _ (by decide +kernel)) ggX5_leaves_X1_has
set_option maxRecDepth 20000 in
theorem ggX5_leaves_X5_pageNow : GoodIn wsX5_leaves wsX5_pageNow := goodIn_r _ [13, 1, 14, 15, 16, 17, 18, 6, 19, 8, 20, 21, 22, 23, 24, 25, 26, 27, 28, 29, 30, 31, 32, 33, 34, 35, 36, 37, 38, 39, 40, 41, 42, 43, 44, 45, 46, 47, 48, 49, 66, 67, 68, 69, 70, 71, 72, 73, 74, 75, 76, 77, 78, 79, 80, 81] (by decide +kernel) (by decide +kernel)
set_option maxRecDepth 20000 in
theorem gX5_leaves_X5_pageNow : GoodIn wsX5_leaves (wsV RX5 107 RX5 yX5_pageNow wsX5_pageNow) := goodIn_app (goodIn_of _ (by decide +kernel)) ggX5_leaves_X5_pageNow
set_option maxRecDepth 20000 in
theorem ggX5_leaves_X5_ordersThatGive : GoodIn wsX5_leaves wsX5_ordersThatGive := goodIn_r _ [52, 53, 54, 39, 55, 56, 38, 40, 57, 58, 59, 60, 61, 62, 63, 64, 42, 43, 65, 48, 49, 50, 51, 12] (by decide +kernel) (by decide +kernel)
set_option maxRecDepth 20000 in
theorem gX5_leaves_X5_ordersThatGive : GoodIn wsX5_leaves (va_wsS RX5 196 yX5_ordersThatGive wsX5_ordersThatGive) := goodIn_app (goodIn_of _ (by decide +kernel)) ggX5_leaves_X5_ordersThatGive
theorem dX5_leaves_0 : decode cX5_leaves 0 = .ok (.aload_n 0, 1) := by decide +kernel
theorem dX5_leaves_1 : decode cX5_leaves 1 = .ok (.getfield 19, 3) := by decide +kernel
theorem dX5_leaves_4 : decode cX5_leaves 4 = .ok (.iload_n 1, 1) := by decide +kernel
theorem dX5_leaves_5 : decode cX5_leaves 5 = .ok (.invokevirtual 84, 3) := by decide +kernel
theorem dX5_leaves_8 : decode cX5_leaves 8 = .ok (.ifCond .ne 5, 3) := by decide +kernel
theorem dX5_leaves_11 : decode cX5_leaves 11 = .ok (.iconst (-1), 1) := by decide +kernel
theorem dX5_leaves_12 : decode cX5_leaves 12 = .ok (.ireturn, 1) := by decide +kernel
theorem dX5_leaves_13 : decode cX5_leaves 13 = .ok (.aload_n 0, 1) := by decide +kernel
theorem dX5_leaves_14 : decode cX5_leaves 14 = .ok (.getfield 37, 3) := by decide +kernel
theorem dX5_leaves_17 : decode cX5_leaves 17 = .ok (.iload_n 1, 1) := by decide +kernel
theorem dX5_leaves_18 : decode cX5_leaves 18 = .ok (.iaload, 1) := by decide +kernel
theorem dX5_leaves_19 : decode cX5_leaves 19 = .ok (.ifCond .ne 6, 3) := by decide +kernel
theorem dX5_leaves_22 : decode cX5_leaves 22 = .ok (.bipush (-9), 2) := by decide +kernel
theorem dX5_leaves_24 : decode cX5_leaves 24 = .ok (.ireturn, 1) := by decide +kernel
theorem dX5_leaves_25 : decode cX5_leaves 25 = .ok (.aload_n 0, 1) := by decide +kernel
theorem dX5_leaves_26 : decode cX5_leaves 26 = .ok (.getfield 37, 3) := by decide +kernel
theorem dX5_leaves_29 : decode cX5_leaves 29 = .ok (.iload_n 1, 1) := by decide +kernel
theorem dX5_leaves_30 : decode cX5_leaves 30 = .ok (.iaload, 1) := by decide +kernel
theorem dX5_leaves_31 : decode cX5_leaves 31 = .ok (.aload_n 0, 1) := by decide +kernel
theorem dX5_leaves_32 : decode cX5_leaves 32 = .ok (.iload_n 1, 1) := by decide +kernel
theorem dX5_leaves_33 : decode cX5_leaves 33 = .ok (.invokevirtual 107, 3) := by decide +kernel
theorem dX5_leaves_36 : decode cX5_leaves 36 = .ok (.iconst 1, 1) := by decide +kernel
theorem dX5_leaves_37 : decode cX5_leaves 37 = .ok (.iconst 0, 1) := by decide +kernel
theorem dX5_leaves_38 : decode cX5_leaves 38 = .ok (.invokestatic 196, 3) := by decide +kernel
theorem dX5_leaves_41 : decode cX5_leaves 41 = .ok (.ireturn, 1) := by decide +kernel
set_option maxRecDepth 20000 in
theorem ggX5_fewest_X5_isLength : GoodIn wsX5_fewest wsX5_isLength := goodIn_r _ [5] (by decide +kernel) (by decide +kernel)
set_option maxRecDepth 20000 in
theorem gX5_fewest_X5_isLength : GoodIn wsX5_fewest (va_wsS RX5 146 yX5_isLength wsX5_isLength) := goodIn_app (goodIn_of _ (by decide +kernel)) ggX5_fewest_X5_isLength
set_option maxRecDepth 20000 in
theorem ggX5_fewest_X1_everybody : GoodIn wsX5_fewest wsX1_everybody := goodIn_r _ [10, 11, 92, 93, 94, 95, 96, 97, 98] (by decide +kernel) (by decide +kernel)
set_option maxRecDepth 20000 in
theorem gX5_fewest_X1_everybody : GoodIn wsX5_fewest (wsV RX5 200 RX1 yX1_everybody wsX1_everybody) := goodIn_app (goodIn_of _ (by decide +kernel)) ggX5_fewest_X1_everybody
set_option maxRecDepth 20000 in
theorem ggX5_fewest_J6_bitCount_0f7a4 : GoodIn wsX5_fewest wsJ6_bitCount_0f7a4 := goodIn_r _ [15, 16, 17, 18] (by decide +kernel) (by decide +kernel)
set_option maxRecDepth 20000 in
theorem gX5_fewest_J6_bitCount_0f7a4 : GoodIn wsX5_fewest (va_wsS RX5 203 yJ6_bitCount_0f7a4 wsJ6_bitCount_0f7a4) := goodIn_app (goodIn_of _ (by decide +kernel)) ggX5_fewest_J6_bitCount_0f7a4
set_option maxRecDepth 20000 in
theorem ggX5_fewest_X5_tellsAllApart : GoodIn wsX5_fewest wsX5_tellsAllApart := goodIn_r _ [22, 23, 1, 24, 25, 26, 27, 28, 29, 30, 31, 32, 33, 34, 35, 36, 37, 38, 39, 40, 41, 42, 43, 9, 44, 11, 45, 46, 47, 48, 49, 50, 51, 52, 53, 54, 55, 56, 57, 58, 59, 60, 61, 62, 63, 64, 65, 66, 67, 68, 69, 70, 71, 72, 73, 74, 75, 76, 77, 78, 79, 80, 81, 82, 83, 84, 85, 86, 87, 88, 89, 90, 91, 99, 92, 93, 94, 95, 96, 97, 98] (by decide +kernel) (by decide +kernel)
set_option maxRecDepth 20000 in
theorem gX5_fewest_X5_tellsAllApart : GoodIn wsX5_fewest (wsV RX5 208 RX5 yX5_tellsAllApart wsX5_tellsAllApart) := goodIn_app (goodIn_of _ (by decide +kernel)) ggX5_fewest_X5_tellsAllApart
theorem dX5_fewest_0 : decode cX5_fewest 0 = .ok (.iload_n 1, 1) := by decide +kernel
theorem dX5_fewest_1 : decode cX5_fewest 1 = .ok (.iconst 0, 1) := by decide +kernel
theorem dX5_fewest_2 : decode cX5_fewest 2 = .ok (.invokestatic 146, 3) := by decide +kernel
theorem dX5_fewest_5 : decode cX5_fewest 5 = .ok (.ifCond .ne 6, 3) := by decide +kernel
theorem dX5_fewest_8 : decode cX5_fewest 8 = .ok (.bipush (-2), 2) := by decide +kernel
theorem dX5_fewest_10 : decode cX5_fewest 10 = .ok (.ireturn, 1) := by decide +kernel
theorem dX5_fewest_11 : decode cX5_fewest 11 = .ok (.aload_n 0, 1) := by decide +kernel
theorem dX5_fewest_12 : decode cX5_fewest 12 = .ok (.getfield 19, 3) := by decide +kernel
theorem dX5_fewest_15 : decode cX5_fewest 15 = .ok (.invokevirtual 200, 3) := by decide +kernel
theorem dX5_fewest_18 : decode cX5_fewest 18 = .ok (.istore_n 2, 1) := by decide +kernel
theorem dX5_fewest_19 : decode cX5_fewest 19 = .ok (.iconst 0, 1) := by decide +kernel
theorem dX5_fewest_20 : decode cX5_fewest 20 = .ok (.istore_n 3, 1) := by decide +kernel
theorem dX5_fewest_21 : decode cX5_fewest 21 = .ok (.iload_n 3, 1) := by decide +kernel
theorem dX5_fewest_22 : decode cX5_fewest 22 = .ok (.iconst 4, 1) := by decide +kernel
theorem dX5_fewest_23 : decode cX5_fewest 23 = .ok (.if_icmp .gt 46, 3) := by decide +kernel
theorem dX5_fewest_26 : decode cX5_fewest 26 = .ok (.iconst 0, 1) := by decide +kernel
theorem dX5_fewest_27 : decode cX5_fewest 27 = .ok (.istore 4, 2) := by decide +kernel
theorem dX5_fewest_29 : decode cX5_fewest 29 = .ok (.iload 4, 2) := by decide +kernel
theorem dX5_fewest_31 : decode cX5_fewest 31 = .ok (.iload_n 2, 1) := by decide +kernel
theorem dX5_fewest_32 : decode cX5_fewest 32 = .ok (.if_icmp .gt 31, 3) := by decide +kernel
theorem dX5_fewest_35 : decode cX5_fewest 35 = .ok (.iload 4, 2) := by decide +kernel
theorem dX5_fewest_37 : decode cX5_fewest 37 = .ok (.invokestatic 203, 3) := by decide +kernel
theorem dX5_fewest_40 : decode cX5_fewest 40 = .ok (.iload_n 3, 1) := by decide +kernel
theorem dX5_fewest_41 : decode cX5_fewest 41 = .ok (.if_icmp .ne 16, 3) := by decide +kernel
theorem dX5_fewest_44 : decode cX5_fewest 44 = .ok (.aload_n 0, 1) := by decide +kernel
theorem dX5_fewest_45 : decode cX5_fewest 45 = .ok (.iload 4, 2) := by decide +kernel
theorem dX5_fewest_47 : decode cX5_fewest 47 = .ok (.iload_n 1, 1) := by decide +kernel
theorem dX5_fewest_48 : decode cX5_fewest 48 = .ok (.invokevirtual 208, 3) := by decide +kernel
theorem dX5_fewest_51 : decode cX5_fewest 51 = .ok (.ifCond .eq 6, 3) := by decide +kernel
theorem dX5_fewest_54 : decode cX5_fewest 54 = .ok (.iload 4, 2) := by decide +kernel
theorem dX5_fewest_56 : decode cX5_fewest 56 = .ok (.ireturn, 1) := by decide +kernel
theorem dX5_fewest_57 : decode cX5_fewest 57 = .ok (.iinc 4 1, 3) := by decide +kernel
theorem dX5_fewest_60 : decode cX5_fewest 60 = .ok (.goto (-31), 3) := by decide +kernel
theorem dX5_fewest_63 : decode cX5_fewest 63 = .ok (.iinc 3 1, 3) := by decide +kernel
theorem dX5_fewest_66 : decode cX5_fewest 66 = .ok (.goto (-45), 3) := by decide +kernel
theorem dX5_fewest_69 : decode cX5_fewest 69 = .ok (.bipush (-9), 2) := by decide +kernel
theorem dX5_fewest_71 : decode cX5_fewest 71 = .ok (.ireturn, 1) := by decide +kernel
set_option maxRecDepth 20000 in
theorem ggX5_blind_X5_isLength : GoodIn wsX5_blind wsX5_isLength := goodIn_r _ [4] (by decide +kernel) (by decide +kernel)
set_option maxRecDepth 20000 in
theorem gX5_blind_X5_isLength : GoodIn wsX5_blind (va_wsS RX5 146 yX5_isLength wsX5_isLength) := goodIn_app (goodIn_of _ (by decide +kernel)) ggX5_blind_X5_isLength
set_option maxRecDepth 20000 in
theorem ggX5_blind_X5_blindness : GoodIn wsX5_blind wsX5_blindness := goodIn_r _ [8, 9, 10, 11, 12, 13, 14, 15, 16, 17, 18, 19, 20, 21, 22, 23, 24, 25, 26, 27, 28, 29, 30, 31, 32, 33, 34, 35, 36, 37, 38, 39, 40, 41, 42, 43, 44, 45, 46, 47, 48, 49, 50, 51, 52, 53, 54, 55, 56, 57, 58, 59, 60, 61, 62, 63, 64, 65, 66, 67, 68, 69, 70, 71, 72, 73, 74, 75, 76, 77, 78, 79, 80, 81, 82, 83, 84, 85, 86, 87, 88, 89, 90, 91, 92] (by decide +kernel) (by decide +kernel)
set_option maxRecDepth 20000 in
theorem gX5_blind_X5_blindness : GoodIn wsX5_blind (wsV RX5 211 RX5 yX5_blindness wsX5_blindness) := goodIn_app (goodIn_of _ (by decide +kernel)) ggX5_blind_X5_blindness
theorem dX5_blind_0 : decode cX5_blind 0 = .ok (.iload_n 1, 1) := by decide +kernel
theorem dX5_blind_1 : decode cX5_blind 1 = .ok (.iconst 0, 1) := by decide +kernel
theorem dX5_blind_2 : decode cX5_blind 2 = .ok (.invokestatic 146, 3) := by decide +kernel
theorem dX5_blind_5 : decode cX5_blind 5 = .ok (.ifCond .ne 6, 3) := by decide +kernel
theorem dX5_blind_8 : decode cX5_blind 8 = .ok (.bipush (-2), 2) := by decide +kernel
theorem dX5_blind_10 : decode cX5_blind 10 = .ok (.ireturn, 1) := by decide +kernel
theorem dX5_blind_11 : decode cX5_blind 11 = .ok (.aload_n 0, 1) := by decide +kernel
theorem dX5_blind_12 : decode cX5_blind 12 = .ok (.iload_n 1, 1) := by decide +kernel
theorem dX5_blind_13 : decode cX5_blind 13 = .ok (.invokevirtual 211, 3) := by decide +kernel
theorem dX5_blind_16 : decode cX5_blind 16 = .ok (.ireturn, 1) := by decide +kernel
set_option maxRecDepth 20000 in
theorem ggX5_whom_X5_isLength : GoodIn wsX5_whom wsX5_isLength := goodIn_r _ [7] (by decide +kernel) (by decide +kernel)
set_option maxRecDepth 20000 in
theorem gX5_whom_X5_isLength : GoodIn wsX5_whom (va_wsS RX5 146 yX5_isLength wsX5_isLength) := goodIn_app (goodIn_of _ (by decide +kernel)) ggX5_whom_X5_isLength
set_option maxRecDepth 20000 in
theorem ggX5_whom_X5_blindness : GoodIn wsX5_whom wsX5_blindness := goodIn_r _ [11, 12, 1, 13, 14, 15, 16, 17, 18, 19, 20, 21, 22, 23, 24, 25, 26, 27, 28, 29, 30, 31, 32, 33, 34, 35, 36, 37, 38, 39, 40, 41, 42, 43, 44, 45, 46, 47, 48, 49, 50, 51, 52, 53, 54, 55, 56, 57, 58, 59, 60, 61, 62, 63, 64, 65, 66, 67, 68, 69, 70, 71, 72, 73, 74, 75, 76, 77, 82, 83, 84, 85, 86, 87, 88, 89, 90, 98, 91, 92, 93, 94, 95, 96, 97] (by decide +kernel) (by decide +kernel)
set_option maxRecDepth 20000 in
theorem gX5_whom_X5_blindness : GoodIn wsX5_whom (wsV RX5 211 RX5 yX5_blindness wsX5_blindness) := goodIn_app (goodIn_of _ (by decide +kernel)) ggX5_whom_X5_blindness
set_option maxRecDepth 20000 in
theorem ggX5_whom_X5_blindnessReformed : GoodIn wsX5_whom wsX5_blindnessReformed := goodIn_r _ [81, 1, 3, 8, 9, 10, 6, 11, 12, 13, 14, 15, 16, 17, 18, 19, 20, 21, 22, 23, 24, 25, 26, 27, 28, 29, 30, 31, 32, 33, 34, 35, 36, 37, 38, 39, 40, 41, 42, 43, 44, 45, 46, 47, 48, 49, 50, 51, 52, 53, 54, 55, 56, 57, 58, 59, 60, 61, 62, 63, 64, 65, 66, 67, 68, 69, 70, 71, 72, 73, 74, 75, 76, 77, 82, 83, 84, 85, 86, 87, 88, 89, 90, 91, 92, 93, 94, 95, 96, 97, 98] (by decide +kernel) (by decide +kernel)
set_option maxRecDepth 20000 in
theorem gX5_whom_X5_blindnessReformed : GoodIn wsX5_whom (wsV RX5 214 RX5 yX5_blindnessReformed wsX5_blindnessReformed) := goodIn_app (goodIn_of _ (by decide +kernel)) ggX5_whom_X5_blindnessReformed
theorem dX5_whom_0 : decode cX5_whom 0 = .ok (.iload_n 1, 1) := by decide +kernel
theorem dX5_whom_1 : decode cX5_whom 1 = .ok (.iconst 0, 1) := by decide +kernel
theorem dX5_whom_2 : decode cX5_whom 2 = .ok (.invokestatic 146, 3) := by decide +kernel
theorem dX5_whom_5 : decode cX5_whom 5 = .ok (.ifCond .ne 6, 3) := by decide +kernel
theorem dX5_whom_8 : decode cX5_whom 8 = .ok (.bipush (-2), 2) := by decide +kernel
theorem dX5_whom_10 : decode cX5_whom 10 = .ok (.ireturn, 1) := by decide +kernel
theorem dX5_whom_11 : decode cX5_whom 11 = .ok (.bipush (-9), 2) := by decide +kernel
theorem dX5_whom_13 : decode cX5_whom 13 = .ok (.istore_n 2, 1) := by decide +kernel
theorem dX5_whom_14 : decode cX5_whom 14 = .ok (.aload_n 0, 1) := by decide +kernel
theorem dX5_whom_15 : decode cX5_whom 15 = .ok (.iload_n 1, 1) := by decide +kernel
theorem dX5_whom_16 : decode cX5_whom 16 = .ok (.invokevirtual 211, 3) := by decide +kernel
theorem dX5_whom_19 : decode cX5_whom 19 = .ok (.istore_n 3, 1) := by decide +kernel
theorem dX5_whom_20 : decode cX5_whom 20 = .ok (.iconst 0, 1) := by decide +kernel
theorem dX5_whom_21 : decode cX5_whom 21 = .ok (.istore 4, 2) := by decide +kernel
theorem dX5_whom_23 : decode cX5_whom 23 = .ok (.iload 4, 2) := by decide +kernel
theorem dX5_whom_25 : decode cX5_whom 25 = .ok (.aload_n 0, 1) := by decide +kernel
theorem dX5_whom_26 : decode cX5_whom 26 = .ok (.getfield 19, 3) := by decide +kernel
theorem dX5_whom_29 : decode cX5_whom 29 = .ok (.getfield 83, 3) := by decide +kernel
theorem dX5_whom_32 : decode cX5_whom 32 = .ok (.if_icmp .ge 47, 3) := by decide +kernel
theorem dX5_whom_35 : decode cX5_whom 35 = .ok (.aload_n 0, 1) := by decide +kernel
theorem dX5_whom_36 : decode cX5_whom 36 = .ok (.getfield 19, 3) := by decide +kernel
theorem dX5_whom_39 : decode cX5_whom 39 = .ok (.getfield 95, 3) := by decide +kernel
theorem dX5_whom_42 : decode cX5_whom 42 = .ok (.iload 4, 2) := by decide +kernel
theorem dX5_whom_44 : decode cX5_whom 44 = .ok (.iaload, 1) := by decide +kernel
theorem dX5_whom_45 : decode cX5_whom 45 = .ok (.ifCond .ne 7, 3) := by decide +kernel
theorem dX5_whom_48 : decode cX5_whom 48 = .ok (.iload_n 3, 1) := by decide +kernel
theorem dX5_whom_49 : decode cX5_whom 49 = .ok (.goto 10, 3) := by decide +kernel
theorem dX5_whom_52 : decode cX5_whom 52 = .ok (.aload_n 0, 1) := by decide +kernel
theorem dX5_whom_53 : decode cX5_whom 53 = .ok (.iload_n 1, 1) := by decide +kernel
theorem dX5_whom_54 : decode cX5_whom 54 = .ok (.iload 4, 2) := by decide +kernel
theorem dX5_whom_56 : decode cX5_whom 56 = .ok (.invokevirtual 214, 3) := by decide +kernel
theorem dX5_whom_59 : decode cX5_whom 59 = .ok (.istore 5, 2) := by decide +kernel
theorem dX5_whom_61 : decode cX5_whom 61 = .ok (.iload 5, 2) := by decide +kernel
theorem dX5_whom_63 : decode cX5_whom 63 = .ok (.iload_n 3, 1) := by decide +kernel
theorem dX5_whom_64 : decode cX5_whom 64 = .ok (.if_icmp .ge 9, 3) := by decide +kernel
theorem dX5_whom_67 : decode cX5_whom 67 = .ok (.iload 4, 2) := by decide +kernel
theorem dX5_whom_69 : decode cX5_whom 69 = .ok (.istore_n 2, 1) := by decide +kernel
theorem dX5_whom_70 : decode cX5_whom 70 = .ok (.iload 5, 2) := by decide +kernel
theorem dX5_whom_72 : decode cX5_whom 72 = .ok (.istore_n 3, 1) := by decide +kernel
theorem dX5_whom_73 : decode cX5_whom 73 = .ok (.iinc 4 1, 3) := by decide +kernel
theorem dX5_whom_76 : decode cX5_whom 76 = .ok (.goto (-53), 3) := by decide +kernel
theorem dX5_whom_79 : decode cX5_whom 79 = .ok (.iload_n 2, 1) := by decide +kernel
theorem dX5_whom_80 : decode cX5_whom 80 = .ok (.ireturn, 1) := by decide +kernel
set_option maxRecDepth 20000 in
theorem ggX5_lost_X4_wordsIn : GoodIn wsX5_lost wsX4_wordsIn := goodIn_r _ [7] (by decide +kernel) (by decide +kernel)
set_option maxRecDepth 20000 in
theorem gX5_lost_X4_wordsIn : GoodIn wsX5_lost (va_wsS RX5 110 yX4_wordsIn wsX4_wordsIn) := goodIn_app (goodIn_of _ (by decide +kernel)) ggX5_lost_X4_wordsIn
set_option maxRecDepth 20000 in
theorem ggX5_lost_X5_setsUnlikeTrial : GoodIn wsX5_lost wsX5_setsUnlikeTrial := goodIn_r _ [12, 2, 1, 13, 14, 15, 16, 17, 18, 19, 20, 21, 22, 23, 24, 25, 26, 27, 28, 29, 30, 31, 32, 33, 34, 35, 36, 37, 38, 39, 40, 41, 42, 5, 6, 7, 43, 44, 45, 46, 47, 48, 49, 50, 51, 4, 52, 53, 54, 55, 56, 57, 58, 59, 60, 11, 61, 3, 90, 91, 92, 93, 94, 95, 96, 97, 98, 99, 100, 101, 102, 103, 104, 105] (by decide +kernel) (by decide +kernel)
set_option maxRecDepth 20000 in
theorem gX5_lost_X5_setsUnlikeTrial : GoodIn wsX5_lost (wsV RX5 217 RX5 yX5_setsUnlikeTrial wsX5_setsUnlikeTrial) := goodIn_app (goodIn_of _ (by decide +kernel)) ggX5_lost_X5_setsUnlikeTrial
set_option maxRecDepth 20000 in
theorem ggX5_lost_X1_everybody : GoodIn wsX5_lost wsX1_everybody := goodIn_r _ [65, 24, 99, 100, 101, 102, 103, 104, 105] (by decide +kernel) (by decide +kernel)
set_option maxRecDepth 20000 in
theorem gX5_lost_X1_everybody : GoodIn wsX5_lost (wsV RX5 200 RX1 yX1_everybody wsX1_everybody) := goodIn_app (goodIn_of _ (by decide +kernel)) ggX5_lost_X1_everybody
set_option maxRecDepth 20000 in
theorem ggX5_lost_X5_tellsTrial : GoodIn wsX5_lost wsX5_tellsTrial := goodIn_r _ [69, 2, 62, 63, 64, 22, 65, 24, 90, 91, 92, 93, 94, 95, 96, 97, 98, 99, 100, 101, 102, 103, 104, 105] (by decide +kernel) (by decide +kernel)
set_option maxRecDepth 20000 in
theorem gX5_lost_X5_tellsTrial : GoodIn wsX5_lost (wsV RX5 220 RX5 yX5_tellsTrial wsX5_tellsTrial) := goodIn_app (goodIn_of _ (by decide +kernel)) ggX5_lost_X5_tellsTrial
set_option maxRecDepth 20000 in
theorem ggX5_lost_J6_bitCount_0f7a4 : GoodIn wsX5_lost wsJ6_bitCount_0f7a4 := goodIn_r _ [73, 74, 75, 76] (by decide +kernel) (by decide +kernel)
set_option maxRecDepth 20000 in
theorem gX5_lost_J6_bitCount_0f7a4 : GoodIn wsX5_lost (va_wsS RX5 203 yJ6_bitCount_0f7a4 wsJ6_bitCount_0f7a4) := goodIn_app (goodIn_of _ (by decide +kernel)) ggX5_lost_J6_bitCount_0f7a4
set_option maxRecDepth 20000 in
theorem ggX5_lost_X5_power : GoodIn wsX5_lost wsX5_power := goodIn_r _ [79] (by decide +kernel) (by decide +kernel)
set_option maxRecDepth 20000 in
theorem gX5_lost_X5_power : GoodIn wsX5_lost (va_wsS RX5 223 yX5_power wsX5_power) := goodIn_app (goodIn_of _ (by decide +kernel)) ggX5_lost_X5_power
set_option maxRecDepth 20000 in
theorem ggX5_lost_X5_partOfFraction : GoodIn wsX5_lost wsX5_partOfFraction := goodIn_r _ [82, 83, 84, 85, 86, 87, 88, 11, 89] (by decide +kernel) (by decide +kernel)
set_option maxRecDepth 20000 in
theorem gX5_lost_X5_partOfFraction : GoodIn wsX5_lost (va_wsS RX5 162 yX5_partOfFraction wsX5_partOfFraction) := goodIn_app (goodIn_of _ (by decide +kernel)) ggX5_lost_X5_partOfFraction
theorem dX5_lost_0 : decode cX5_lost 0 = .ok (.iload_n 1, 1) := by decide +kernel
theorem dX5_lost_1 : decode cX5_lost 1 = .ok (.ifCond .lt 9, 3) := by decide +kernel
theorem dX5_lost_4 : decode cX5_lost 4 = .ok (.iload_n 1, 1) := by decide +kernel
theorem dX5_lost_5 : decode cX5_lost 5 = .ok (.bipush 10, 2) := by decide +kernel
theorem dX5_lost_7 : decode cX5_lost 7 = .ok (.if_icmp .le 6, 3) := by decide +kernel
theorem dX5_lost_10 : decode cX5_lost 10 = .ok (.bipush (-2), 2) := by decide +kernel
theorem dX5_lost_12 : decode cX5_lost 12 = .ok (.ireturn, 1) := by decide +kernel
theorem dX5_lost_13 : decode cX5_lost 13 = .ok (.aload_n 0, 1) := by decide +kernel
theorem dX5_lost_14 : decode cX5_lost 14 = .ok (.getfield 50, 3) := by decide +kernel
theorem dX5_lost_17 : decode cX5_lost 17 = .ok (.invokestatic 110, 3) := by decide +kernel
theorem dX5_lost_20 : decode cX5_lost 20 = .ok (.iconst 5, 1) := by decide +kernel
theorem dX5_lost_21 : decode cX5_lost 21 = .ok (.if_icmp .le 6, 3) := by decide +kernel
theorem dX5_lost_24 : decode cX5_lost 24 = .ok (.bipush (-3), 2) := by decide +kernel
theorem dX5_lost_26 : decode cX5_lost 26 = .ok (.ireturn, 1) := by decide +kernel
theorem dX5_lost_27 : decode cX5_lost 27 = .ok (.aload_n 0, 1) := by decide +kernel
theorem dX5_lost_28 : decode cX5_lost 28 = .ok (.invokevirtual 217, 3) := by decide +kernel
theorem dX5_lost_31 : decode cX5_lost 31 = .ok (.istore_n 3, 1) := by decide +kernel
theorem dX5_lost_32 : decode cX5_lost 32 = .ok (.aload_n 0, 1) := by decide +kernel
theorem dX5_lost_33 : decode cX5_lost 33 = .ok (.getfield 19, 3) := by decide +kernel
theorem dX5_lost_36 : decode cX5_lost 36 = .ok (.invokevirtual 200, 3) := by decide +kernel
theorem dX5_lost_39 : decode cX5_lost 39 = .ok (.istore 4, 2) := by decide +kernel
theorem dX5_lost_41 : decode cX5_lost 41 = .ok (.iconst 0, 1) := by decide +kernel
theorem dX5_lost_42 : decode cX5_lost 42 = .ok (.istore 5, 2) := by decide +kernel
theorem dX5_lost_44 : decode cX5_lost 44 = .ok (.iconst 0, 1) := by decide +kernel
theorem dX5_lost_45 : decode cX5_lost 45 = .ok (.istore 6, 2) := by decide +kernel
theorem dX5_lost_47 : decode cX5_lost 47 = .ok (.iload 6, 2) := by decide +kernel
theorem dX5_lost_49 : decode cX5_lost 49 = .ok (.iload 4, 2) := by decide +kernel
theorem dX5_lost_51 : decode cX5_lost 51 = .ok (.if_icmp .gt 55, 3) := by decide +kernel
theorem dX5_lost_54 : decode cX5_lost 54 = .ok (.aload_n 0, 1) := by decide +kernel
theorem dX5_lost_55 : decode cX5_lost 55 = .ok (.iload 6, 2) := by decide +kernel
theorem dX5_lost_57 : decode cX5_lost 57 = .ok (.iload_n 3, 1) := by decide +kernel
theorem dX5_lost_58 : decode cX5_lost 58 = .ok (.invokevirtual 220, 3) := by decide +kernel
theorem dX5_lost_61 : decode cX5_lost 61 = .ok (.ifCond .eq 39, 3) := by decide +kernel
theorem dX5_lost_64 : decode cX5_lost 64 = .ok (.iload 6, 2) := by decide +kernel
theorem dX5_lost_66 : decode cX5_lost 66 = .ok (.invokestatic 203, 3) := by decide +kernel
theorem dX5_lost_69 : decode cX5_lost 69 = .ok (.istore 7, 2) := by decide +kernel
theorem dX5_lost_71 : decode cX5_lost 71 = .ok (.iload 5, 2) := by decide +kernel
theorem dX5_lost_73 : decode cX5_lost 73 = .ok (.bipush 10, 2) := by decide +kernel
theorem dX5_lost_75 : decode cX5_lost 75 = .ok (.iload_n 1, 1) := by decide +kernel
theorem dX5_lost_76 : decode cX5_lost 76 = .ok (.isub, 1) := by decide +kernel
theorem dX5_lost_77 : decode cX5_lost 77 = .ok (.iload 7, 2) := by decide +kernel
theorem dX5_lost_79 : decode cX5_lost 79 = .ok (.invokestatic 223, 3) := by decide +kernel
theorem dX5_lost_82 : decode cX5_lost 82 = .ok (.iload_n 1, 1) := by decide +kernel
theorem dX5_lost_83 : decode cX5_lost 83 = .ok (.aload_n 0, 1) := by decide +kernel
theorem dX5_lost_84 : decode cX5_lost 84 = .ok (.getfield 19, 3) := by decide +kernel
theorem dX5_lost_87 : decode cX5_lost 87 = .ok (.getfield 83, 3) := by decide +kernel
theorem dX5_lost_90 : decode cX5_lost 90 = .ok (.iload 7, 2) := by decide +kernel
theorem dX5_lost_92 : decode cX5_lost 92 = .ok (.isub, 1) := by decide +kernel
theorem dX5_lost_93 : decode cX5_lost 93 = .ok (.invokestatic 223, 3) := by decide +kernel
theorem dX5_lost_96 : decode cX5_lost 96 = .ok (.imul, 1) := by decide +kernel
theorem dX5_lost_97 : decode cX5_lost 97 = .ok (.iadd, 1) := by decide +kernel
theorem dX5_lost_98 : decode cX5_lost 98 = .ok (.istore 5, 2) := by decide +kernel
theorem dX5_lost_100 : decode cX5_lost 100 = .ok (.iinc 6 1, 3) := by decide +kernel
theorem dX5_lost_103 : decode cX5_lost 103 = .ok (.goto (-56), 3) := by decide +kernel
theorem dX5_lost_106 : decode cX5_lost 106 = .ok (.iload 5, 2) := by decide +kernel
theorem dX5_lost_108 : decode cX5_lost 108 = .ok (.bipush 10, 2) := by decide +kernel
theorem dX5_lost_110 : decode cX5_lost 110 = .ok (.aload_n 0, 1) := by decide +kernel
theorem dX5_lost_111 : decode cX5_lost 111 = .ok (.getfield 19, 3) := by decide +kernel
theorem dX5_lost_114 : decode cX5_lost 114 = .ok (.getfield 83, 3) := by decide +kernel
theorem dX5_lost_117 : decode cX5_lost 117 = .ok (.invokestatic 223, 3) := by decide +kernel
theorem dX5_lost_120 : decode cX5_lost 120 = .ok (.iload_n 2, 1) := by decide +kernel
theorem dX5_lost_121 : decode cX5_lost 121 = .ok (.invokestatic 162, 3) := by decide +kernel
theorem dX5_lost_124 : decode cX5_lost 124 = .ok (.ireturn, 1) := by decide +kernel
theorem dX5_seed_0 : decode cX5_seed 0 = .ok (.aload_n 0, 1) := by decide +kernel
theorem dX5_seed_1 : decode cX5_seed 1 = .ok (.getfield 54, 3) := by decide +kernel
theorem dX5_seed_4 : decode cX5_seed 4 = .ok (.lstore_n 3, 1) := by decide +kernel
theorem dX5_seed_5 : decode cX5_seed 5 = .ok (.aload_n 0, 1) := by decide +kernel
theorem dX5_seed_6 : decode cX5_seed 6 = .ok (.lload_n 1, 1) := by decide +kernel
theorem dX5_seed_7 : decode cX5_seed 7 = .ok (.putfield 54, 3) := by decide +kernel
theorem dX5_seed_10 : decode cX5_seed 10 = .ok (.lload_n 3, 1) := by decide +kernel
theorem dX5_seed_11 : decode cX5_seed 11 = .ok (.lreturn, 1) := by decide +kernel
set_option maxRecDepth 20000 in
theorem ggX5_days_X5_trialBySeed : GoodIn wsX5_days wsX5_trialBySeed := goodIn_r _ [6, 7, 8, 9, 10, 11, 12, 13, 51, 52, 53, 54, 55, 56, 57, 58, 59] (by decide +kernel) (by decide +kernel)
set_option maxRecDepth 20000 in
theorem gX5_days_X5_trialBySeed : GoodIn wsX5_days (wsV RX5 226 RX5 yX5_trialBySeed wsX5_trialBySeed) := goodIn_app (goodIn_of _ (by decide +kernel)) ggX5_days_X5_trialBySeed
set_option maxRecDepth 20000 in
theorem ggX5_days_X1_takeDown : GoodIn wsX5_days wsX1_takeDown := goodIn_r _ [18, 19, 20, 21, 22, 17, 23, 24, 25, 26, 27, 28, 29, 30, 31, 32, 33, 34, 35, 36, 37, 38, 12, 39, 40, 41, 42, 43, 44, 45, 46, 11, 13, 60, 61, 62, 63, 64, 65, 66] (by decide +kernel) (by decide +kernel)
set_option maxRecDepth 20000 in
theorem gX5_days_X1_takeDown : GoodIn wsX5_days (wsV RX5 184 RX1 yX1_takeDown wsX1_takeDown) := goodIn_app (goodIn_of _ (by decide +kernel)) ggX5_days_X1_takeDown
set_option maxRecDepth 20000 in
theorem ggX5_days_X1_wordsOnPages : GoodIn wsX5_days wsX1_wordsOnPages := goodIn_r _ [50, 19, 25, 37, 38, 12, 39, 60, 61, 62, 63, 64, 65, 66] (by decide +kernel) (by decide +kernel)
set_option maxRecDepth 20000 in
theorem gX5_days_X1_wordsOnPages : GoodIn wsX5_days (wsV RX5 229 RX1 yX1_wordsOnPages wsX1_wordsOnPages) := goodIn_app (goodIn_of _ (by decide +kernel)) ggX5_days_X1_wordsOnPages
theorem dX5_days_0 : decode cX5_days 0 = .ok (.iload_n 1, 1) := by decide +kernel
theorem dX5_days_1 : decode cX5_days 1 = .ok (.iconst 1, 1) := by decide +kernel
theorem dX5_days_2 : decode cX5_days 2 = .ok (.if_icmp .lt 20, 3) := by decide +kernel
theorem dX5_days_5 : decode cX5_days 5 = .ok (.iload_n 1, 1) := by decide +kernel
theorem dX5_days_6 : decode cX5_days 6 = .ok (.bipush 30, 2) := by decide +kernel
theorem dX5_days_8 : decode cX5_days 8 = .ok (.if_icmp .gt 14, 3) := by decide +kernel
theorem dX5_days_11 : decode cX5_days 11 = .ok (.iload_n 2, 1) := by decide +kernel
theorem dX5_days_12 : decode cX5_days 12 = .ok (.iconst 1, 1) := by decide +kernel
theorem dX5_days_13 : decode cX5_days 13 = .ok (.if_icmp .lt 9, 3) := by decide +kernel
theorem dX5_days_16 : decode cX5_days 16 = .ok (.iload_n 2, 1) := by decide +kernel
theorem dX5_days_17 : decode cX5_days 17 = .ok (.bipush 6, 2) := by decide +kernel
theorem dX5_days_19 : decode cX5_days 19 = .ok (.if_icmp .le 6, 3) := by decide +kernel
theorem dX5_days_22 : decode cX5_days 22 = .ok (.bipush (-2), 2) := by decide +kernel
theorem dX5_days_24 : decode cX5_days 24 = .ok (.ireturn, 1) := by decide +kernel
theorem dX5_days_25 : decode cX5_days 25 = .ok (.iconst 0, 1) := by decide +kernel
theorem dX5_days_26 : decode cX5_days 26 = .ok (.istore_n 3, 1) := by decide +kernel
theorem dX5_days_27 : decode cX5_days 27 = .ok (.iconst 0, 1) := by decide +kernel
theorem dX5_days_28 : decode cX5_days 28 = .ok (.istore 4, 2) := by decide +kernel
theorem dX5_days_30 : decode cX5_days 30 = .ok (.iload 4, 2) := by decide +kernel
theorem dX5_days_32 : decode cX5_days 32 = .ok (.iload_n 1, 1) := by decide +kernel
theorem dX5_days_33 : decode cX5_days 33 = .ok (.if_icmp .ge 31, 3) := by decide +kernel
theorem dX5_days_36 : decode cX5_days 36 = .ok (.aload_n 0, 1) := by decide +kernel
theorem dX5_days_37 : decode cX5_days 37 = .ok (.getfield 19, 3) := by decide +kernel
theorem dX5_days_40 : decode cX5_days 40 = .ok (.aload_n 0, 1) := by decide +kernel
theorem dX5_days_41 : decode cX5_days 41 = .ok (.iload_n 2, 1) := by decide +kernel
theorem dX5_days_42 : decode cX5_days 42 = .ok (.invokevirtual 226, 3) := by decide +kernel
theorem dX5_days_45 : decode cX5_days 45 = .ok (.invokevirtual 184, 3) := by decide +kernel
theorem dX5_days_48 : decode cX5_days 48 = .ok (.iload_n 3, 1) := by decide +kernel
theorem dX5_days_49 : decode cX5_days 49 = .ok (.aload_n 0, 1) := by decide +kernel
theorem dX5_days_50 : decode cX5_days 50 = .ok (.getfield 19, 3) := by decide +kernel
theorem dX5_days_53 : decode cX5_days 53 = .ok (.invokevirtual 229, 3) := by decide +kernel
theorem dX5_days_56 : decode cX5_days 56 = .ok (.iadd, 1) := by decide +kernel
theorem dX5_days_57 : decode cX5_days 57 = .ok (.istore_n 3, 1) := by decide +kernel
theorem dX5_days_58 : decode cX5_days 58 = .ok (.iinc 4 1, 3) := by decide +kernel
theorem dX5_days_61 : decode cX5_days 61 = .ok (.goto (-31), 3) := by decide +kernel
theorem dX5_days_64 : decode cX5_days 64 = .ok (.iload_n 3, 1) := by decide +kernel
theorem dX5_days_65 : decode cX5_days 65 = .ok (.ireturn, 1) := by decide +kernel
set_option maxRecDepth 20000 in
theorem ggX5_keep_X5_stateNow : GoodIn wsX5_keep wsX5_stateNow := goodIn_r _ [7, 2, 8, 9, 10, 11, 12, 13, 14, 15, 16, 21, 22, 23, 24, 25, 26, 27, 28, 29, 30, 31, 32, 33, 34, 35, 36] (by decide +kernel) (by decide +kernel)
set_option maxRecDepth 20000 in
theorem gX5_keep_X5_stateNow : GoodIn wsX5_keep (wsV RX5 123 RX5 yX5_stateNow wsX5_stateNow) := goodIn_app (goodIn_of _ (by decide +kernel)) ggX5_keep_X5_stateNow
set_option maxRecDepth 20000 in
theorem ggX5_keep_X4_wordsIn : GoodIn wsX5_keep wsX4_wordsIn := goodIn_r _ [20] (by decide +kernel) (by decide +kernel)
set_option maxRecDepth 20000 in
theorem gX5_keep_X4_wordsIn : GoodIn wsX5_keep (va_wsS RX5 110 yX4_wordsIn wsX4_wordsIn) := goodIn_app (goodIn_of _ (by decide +kernel)) ggX5_keep_X4_wordsIn
theorem dX5_keep_0 : decode cX5_keep 0 = .ok (.iload_n 1, 1) := by decide +kernel
theorem dX5_keep_1 : decode cX5_keep 1 = .ok (.ifCond .lt 8, 3) := by decide +kernel
theorem dX5_keep_4 : decode cX5_keep 4 = .ok (.iload_n 1, 1) := by decide +kernel
theorem dX5_keep_5 : decode cX5_keep 5 = .ok (.iconst 2, 1) := by decide +kernel
theorem dX5_keep_6 : decode cX5_keep 6 = .ok (.if_icmp .lt 5, 3) := by decide +kernel
theorem dX5_keep_9 : decode cX5_keep 9 = .ok (.iconst (-1), 1) := by decide +kernel
theorem dX5_keep_10 : decode cX5_keep 10 = .ok (.ireturn, 1) := by decide +kernel
theorem dX5_keep_11 : decode cX5_keep 11 = .ok (.aload_n 0, 1) := by decide +kernel
theorem dX5_keep_12 : decode cX5_keep 12 = .ok (.getfield 44, 3) := by decide +kernel
theorem dX5_keep_15 : decode cX5_keep 15 = .ok (.iload_n 1, 1) := by decide +kernel
theorem dX5_keep_16 : decode cX5_keep 16 = .ok (.aload_n 0, 1) := by decide +kernel
theorem dX5_keep_17 : decode cX5_keep 17 = .ok (.invokevirtual 123, 3) := by decide +kernel
theorem dX5_keep_20 : decode cX5_keep 20 = .ok (.lastore, 1) := by decide +kernel
theorem dX5_keep_21 : decode cX5_keep 21 = .ok (.aload_n 0, 1) := by decide +kernel
theorem dX5_keep_22 : decode cX5_keep 22 = .ok (.getfield 50, 3) := by decide +kernel
theorem dX5_keep_25 : decode cX5_keep 25 = .ok (.invokestatic 110, 3) := by decide +kernel
theorem dX5_keep_28 : decode cX5_keep 28 = .ok (.ireturn, 1) := by decide +kernel
set_option maxRecDepth 20000 in
theorem ggX5_again_X5_goBackTo : GoodIn wsX5_again wsX5_goBackTo := goodIn_r _ [9, 4, 10, 11, 12, 13, 14, 15, 16, 17, 18, 23, 24, 25, 26, 27, 28, 29, 30, 31, 34, 35, 36, 37, 38, 39, 40] (by decide +kernel) (by decide +kernel)
set_option maxRecDepth 20000 in
theorem gX5_again_X5_goBackTo : GoodIn wsX5_again (wsV RX5 143 RX5 yX5_goBackTo wsX5_goBackTo) := goodIn_app (goodIn_of _ (by decide +kernel)) ggX5_again_X5_goBackTo
set_option maxRecDepth 20000 in
theorem ggX5_again_X4_wordsIn : GoodIn wsX5_again wsX4_wordsIn := goodIn_r _ [22] (by decide +kernel) (by decide +kernel)
set_option maxRecDepth 20000 in
theorem gX5_again_X4_wordsIn : GoodIn wsX5_again (va_wsS RX5 110 yX4_wordsIn wsX4_wordsIn) := goodIn_app (goodIn_of _ (by decide +kernel)) ggX5_again_X4_wordsIn
theorem dX5_again_0 : decode cX5_again 0 = .ok (.iload_n 1, 1) := by decide +kernel
theorem dX5_again_1 : decode cX5_again 1 = .ok (.ifCond .lt 8, 3) := by decide +kernel
theorem dX5_again_4 : decode cX5_again 4 = .ok (.iload_n 1, 1) := by decide +kernel
theorem dX5_again_5 : decode cX5_again 5 = .ok (.iconst 2, 1) := by decide +kernel
theorem dX5_again_6 : decode cX5_again 6 = .ok (.if_icmp .lt 5, 3) := by decide +kernel
theorem dX5_again_9 : decode cX5_again 9 = .ok (.iconst (-1), 1) := by decide +kernel
theorem dX5_again_10 : decode cX5_again 10 = .ok (.ireturn, 1) := by decide +kernel
theorem dX5_again_11 : decode cX5_again 11 = .ok (.aload_n 0, 1) := by decide +kernel
theorem dX5_again_12 : decode cX5_again 12 = .ok (.getfield 44, 3) := by decide +kernel
theorem dX5_again_15 : decode cX5_again 15 = .ok (.iload_n 1, 1) := by decide +kernel
theorem dX5_again_16 : decode cX5_again 16 = .ok (.laload, 1) := by decide +kernel
theorem dX5_again_17 : decode cX5_again 17 = .ok (.lconst 0, 1) := by decide +kernel
theorem dX5_again_18 : decode cX5_again 18 = .ok (.lcmp, 1) := by decide +kernel
theorem dX5_again_19 : decode cX5_again 19 = .ok (.ifCond .ne 6, 3) := by decide +kernel
theorem dX5_again_22 : decode cX5_again 22 = .ok (.bipush (-3), 2) := by decide +kernel
theorem dX5_again_24 : decode cX5_again 24 = .ok (.ireturn, 1) := by decide +kernel
theorem dX5_again_25 : decode cX5_again 25 = .ok (.aload_n 0, 1) := by decide +kernel
theorem dX5_again_26 : decode cX5_again 26 = .ok (.aload_n 0, 1) := by decide +kernel
theorem dX5_again_27 : decode cX5_again 27 = .ok (.getfield 44, 3) := by decide +kernel
theorem dX5_again_30 : decode cX5_again 30 = .ok (.iload_n 1, 1) := by decide +kernel
theorem dX5_again_31 : decode cX5_again 31 = .ok (.laload, 1) := by decide +kernel
theorem dX5_again_32 : decode cX5_again 32 = .ok (.invokevirtual 143, 3) := by decide +kernel
theorem dX5_again_35 : decode cX5_again 35 = .ok (.aload_n 0, 1) := by decide +kernel
theorem dX5_again_36 : decode cX5_again 36 = .ok (.getfield 26, 3) := by decide +kernel
theorem dX5_again_39 : decode cX5_again 39 = .ok (.iconst 0, 1) := by decide +kernel
theorem dX5_again_40 : decode cX5_again 40 = .ok (.putfield 73, 3) := by decide +kernel
theorem dX5_again_43 : decode cX5_again 43 = .ok (.aload_n 0, 1) := by decide +kernel
theorem dX5_again_44 : decode cX5_again 44 = .ok (.getfield 50, 3) := by decide +kernel
theorem dX5_again_47 : decode cX5_again 47 = .ok (.invokestatic 110, 3) := by decide +kernel
theorem dX5_again_50 : decode cX5_again 50 = .ok (.ireturn, 1) := by decide +kernel
set_option maxRecDepth 20000 in
theorem ggX5_count_X4_wordsIn : GoodIn wsX5_count wsX4_wordsIn := goodIn_r _ [11] (by decide +kernel) (by decide +kernel)
set_option maxRecDepth 20000 in
theorem gX5_count_X4_wordsIn : GoodIn wsX5_count (va_wsS RX5 110 yX4_wordsIn wsX4_wordsIn) := goodIn_app (goodIn_of _ (by decide +kernel)) ggX5_count_X4_wordsIn
set_option maxRecDepth 20000 in
theorem ggX5_count_X5_setOfTold : GoodIn wsX5_count wsX5_setOfTold := goodIn_r _ [16, 3, 4, 17, 55, 56, 57, 58, 59, 60, 61, 62, 63, 66, 67, 68, 69, 70, 71, 72] (by decide +kernel) (by decide +kernel)
set_option maxRecDepth 20000 in
theorem gX5_count_X5_setOfTold : GoodIn wsX5_count (wsV RX5 232 RX5 yX5_setOfTold wsX5_setOfTold) := goodIn_app (goodIn_of _ (by decide +kernel)) ggX5_count_X5_setOfTold
set_option maxRecDepth 20000 in
theorem ggX5_count_X1_takeDown : GoodIn wsX5_count wsX1_takeDown := goodIn_r _ [22, 23, 24, 25, 26, 21, 27, 28, 29, 30, 31, 32, 33, 34, 35, 36, 37, 38, 39, 40, 41, 9, 10, 11, 42, 43, 44, 45, 46, 47, 48, 49, 50, 66, 67, 68, 69, 70, 71, 72] (by decide +kernel) (by decide +kernel)
set_option maxRecDepth 20000 in
theorem gX5_count_X1_takeDown : GoodIn wsX5_count (wsV RX5 184 RX1 yX1_takeDown wsX1_takeDown) := goodIn_app (goodIn_of _ (by decide +kernel)) ggX5_count_X1_takeDown
set_option maxRecDepth 20000 in
theorem ggX5_count_X1_wordsOnPages : GoodIn wsX5_count wsX1_wordsOnPages := goodIn_r _ [54, 23, 29, 41, 9, 10, 11, 66, 67, 68, 69, 70, 71, 72] (by decide +kernel) (by decide +kernel)
set_option maxRecDepth 20000 in
theorem gX5_count_X1_wordsOnPages : GoodIn wsX5_count (wsV RX5 229 RX1 yX1_wordsOnPages wsX1_wordsOnPages) := goodIn_app (goodIn_of _ (by decide +kernel)) ggX5_count_X1_wordsOnPages
theorem dX5_count_0 : decode cX5_count 0 = .ok (.iload_n 1, 1) := by decide +kernel
theorem dX5_count_1 : decode cX5_count 1 = .ok (.tableswitch 95 0 5 #[39, 47, 55, 63, 71, 76], 39) := by decide +kernel
theorem dX5_count_40 : decode cX5_count 40 = .ok (.aload_n 0, 1) := by decide +kernel
theorem dX5_count_41 : decode cX5_count 41 = .ok (.getfield 12, 3) := by decide +kernel
theorem dX5_count_44 : decode cX5_count 44 = .ok (.getfield 58, 3) := by decide +kernel
theorem dX5_count_47 : decode cX5_count 47 = .ok (.ireturn, 1) := by decide +kernel
theorem dX5_count_48 : decode cX5_count 48 = .ok (.aload_n 0, 1) := by decide +kernel
theorem dX5_count_49 : decode cX5_count 49 = .ok (.getfield 19, 3) := by decide +kernel
theorem dX5_count_52 : decode cX5_count 52 = .ok (.getfield 83, 3) := by decide +kernel
theorem dX5_count_55 : decode cX5_count 55 = .ok (.ireturn, 1) := by decide +kernel
theorem dX5_count_56 : decode cX5_count 56 = .ok (.aload_n 0, 1) := by decide +kernel
theorem dX5_count_57 : decode cX5_count 57 = .ok (.getfield 50, 3) := by decide +kernel
theorem dX5_count_60 : decode cX5_count 60 = .ok (.invokestatic 110, 3) := by decide +kernel
theorem dX5_count_63 : decode cX5_count 63 = .ok (.ireturn, 1) := by decide +kernel
theorem dX5_count_64 : decode cX5_count 64 = .ok (.aload_n 0, 1) := by decide +kernel
theorem dX5_count_65 : decode cX5_count 65 = .ok (.getfield 26, 3) := by decide +kernel
theorem dX5_count_68 : decode cX5_count 68 = .ok (.getfield 73, 3) := by decide +kernel
theorem dX5_count_71 : decode cX5_count 71 = .ok (.ireturn, 1) := by decide +kernel
theorem dX5_count_72 : decode cX5_count 72 = .ok (.aload_n 0, 1) := by decide +kernel
theorem dX5_count_73 : decode cX5_count 73 = .ok (.invokevirtual 232, 3) := by decide +kernel
theorem dX5_count_76 : decode cX5_count 76 = .ok (.ireturn, 1) := by decide +kernel
theorem dX5_count_77 : decode cX5_count 77 = .ok (.aload_n 0, 1) := by decide +kernel
theorem dX5_count_78 : decode cX5_count 78 = .ok (.getfield 19, 3) := by decide +kernel
theorem dX5_count_81 : decode cX5_count 81 = .ok (.aload_n 0, 1) := by decide +kernel
theorem dX5_count_82 : decode cX5_count 82 = .ok (.getfield 50, 3) := by decide +kernel
theorem dX5_count_85 : decode cX5_count 85 = .ok (.invokevirtual 184, 3) := by decide +kernel
theorem dX5_count_88 : decode cX5_count 88 = .ok (.aload_n 0, 1) := by decide +kernel
theorem dX5_count_89 : decode cX5_count 89 = .ok (.getfield 19, 3) := by decide +kernel
theorem dX5_count_92 : decode cX5_count 92 = .ok (.invokevirtual 229, 3) := by decide +kernel
theorem dX5_count_95 : decode cX5_count 95 = .ok (.ireturn, 1) := by decide +kernel
theorem dX5_count_96 : decode cX5_count 96 = .ok (.bipush (-2), 2) := by decide +kernel
theorem dX5_count_98 : decode cX5_count 98 = .ok (.ireturn, 1) := by decide +kernel
theorem dX5_isWord_0 : decode cX5_isWord 0 = .ok (.iload_n 0, 1) := by decide +kernel
theorem dX5_isWord_1 : decode cX5_isWord 1 = .ok (.ifCond .lt 12, 3) := by decide +kernel
theorem dX5_isWord_4 : decode cX5_isWord 4 = .ok (.iload_n 0, 1) := by decide +kernel
theorem dX5_isWord_5 : decode cX5_isWord 5 = .ok (.iconst 4, 1) := by decide +kernel
theorem dX5_isWord_6 : decode cX5_isWord 6 = .ok (.if_icmp .ge 7, 3) := by decide +kernel
theorem dX5_isWord_9 : decode cX5_isWord 9 = .ok (.iconst 1, 1) := by decide +kernel
theorem dX5_isWord_10 : decode cX5_isWord 10 = .ok (.goto 4, 3) := by decide +kernel
theorem dX5_isWord_13 : decode cX5_isWord 13 = .ok (.iconst 0, 1) := by decide +kernel
theorem dX5_isWord_14 : decode cX5_isWord 14 = .ok (.ireturn, 1) := by decide +kernel
theorem dX5_isLength_0 : decode cX5_isLength 0 = .ok (.iload_n 0, 1) := by decide +kernel
theorem dX5_isLength_1 : decode cX5_isLength 1 = .ok (.iload_n 1, 1) := by decide +kernel
theorem dX5_isLength_2 : decode cX5_isLength 2 = .ok (.if_icmp .lt 12, 3) := by decide +kernel
theorem dX5_isLength_5 : decode cX5_isLength 5 = .ok (.iload_n 0, 1) := by decide +kernel
theorem dX5_isLength_6 : decode cX5_isLength 6 = .ok (.iconst 5, 1) := by decide +kernel
theorem dX5_isLength_7 : decode cX5_isLength 7 = .ok (.if_icmp .gt 7, 3) := by decide +kernel
theorem dX5_isLength_10 : decode cX5_isLength 10 = .ok (.iconst 1, 1) := by decide +kernel
theorem dX5_isLength_11 : decode cX5_isLength 11 = .ok (.goto 4, 3) := by decide +kernel
theorem dX5_isLength_14 : decode cX5_isLength 14 = .ok (.iconst 0, 1) := by decide +kernel
theorem dX5_isLength_15 : decode cX5_isLength 15 = .ok (.ireturn, 1) := by decide +kernel
theorem dX5_lessOneOrNone_0 : decode cX5_lessOneOrNone 0 = .ok (.iload_n 0, 1) := by decide +kernel
theorem dX5_lessOneOrNone_1 : decode cX5_lessOneOrNone 1 = .ok (.ifCond .ne 8, 3) := by decide +kernel
theorem dX5_lessOneOrNone_4 : decode cX5_lessOneOrNone 4 = .ok (.bipush (-9), 2) := by decide +kernel
theorem dX5_lessOneOrNone_6 : decode cX5_lessOneOrNone 6 = .ok (.goto 6, 3) := by decide +kernel
theorem dX5_lessOneOrNone_9 : decode cX5_lessOneOrNone 9 = .ok (.iload_n 0, 1) := by decide +kernel
theorem dX5_lessOneOrNone_10 : decode cX5_lessOneOrNone 10 = .ok (.iconst 1, 1) := by decide +kernel
theorem dX5_lessOneOrNone_11 : decode cX5_lessOneOrNone 11 = .ok (.isub, 1) := by decide +kernel
theorem dX5_lessOneOrNone_12 : decode cX5_lessOneOrNone 12 = .ok (.ireturn, 1) := by decide +kernel
set_option maxRecDepth 20000 in
theorem ggX5_pageNow_X1_takeDown : GoodIn wsX5_pageNow wsX1_takeDown := goodIn_r _ [8, 9, 10, 11, 12, 7, 13, 14, 15, 16, 17, 18, 19, 20, 21, 22, 23, 24, 25, 26, 27, 28, 29, 30, 31, 32, 33, 34, 35, 36, 37, 38, 39, 49, 50, 51, 52, 53, 54, 55] (by decide +kernel) (by decide +kernel)
set_option maxRecDepth 20000 in
theorem gX5_pageNow_X1_takeDown : GoodIn wsX5_pageNow (wsV RX5 184 RX1 yX1_takeDown wsX1_takeDown) := goodIn_app (goodIn_of _ (by decide +kernel)) ggX5_pageNow_X1_takeDown
theorem dX5_pageNow_0 : decode cX5_pageNow 0 = .ok (.aload_n 0, 1) := by decide +kernel
theorem dX5_pageNow_1 : decode cX5_pageNow 1 = .ok (.getfield 19, 3) := by decide +kernel
theorem dX5_pageNow_4 : decode cX5_pageNow 4 = .ok (.aload_n 0, 1) := by decide +kernel
theorem dX5_pageNow_5 : decode cX5_pageNow 5 = .ok (.getfield 50, 3) := by decide +kernel
theorem dX5_pageNow_8 : decode cX5_pageNow 8 = .ok (.invokevirtual 184, 3) := by decide +kernel
theorem dX5_pageNow_11 : decode cX5_pageNow 11 = .ok (.aload_n 0, 1) := by decide +kernel
theorem dX5_pageNow_12 : decode cX5_pageNow 12 = .ok (.getfield 19, 3) := by decide +kernel
theorem dX5_pageNow_15 : decode cX5_pageNow 15 = .ok (.getfield 193, 3) := by decide +kernel
theorem dX5_pageNow_18 : decode cX5_pageNow 18 = .ok (.iload_n 1, 1) := by decide +kernel
theorem dX5_pageNow_19 : decode cX5_pageNow 19 = .ok (.iaload, 1) := by decide +kernel
theorem dX5_pageNow_20 : decode cX5_pageNow 20 = .ok (.ireturn, 1) := by decide +kernel
set_option maxRecDepth 20000 in
theorem ggX5_wordsTold_X4_wordsIn : GoodIn wsX5_wordsTold wsX4_wordsIn := goodIn_r _ [5] (by decide +kernel) (by decide +kernel)
set_option maxRecDepth 20000 in
theorem gX5_wordsTold_X4_wordsIn : GoodIn wsX5_wordsTold (va_wsS RX5 110 yX4_wordsIn wsX4_wordsIn) := goodIn_app (goodIn_of _ (by decide +kernel)) ggX5_wordsTold_X4_wordsIn
theorem dX5_wordsTold_0 : decode cX5_wordsTold 0 = .ok (.aload_n 0, 1) := by decide +kernel
theorem dX5_wordsTold_1 : decode cX5_wordsTold 1 = .ok (.getfield 37, 3) := by decide +kernel
theorem dX5_wordsTold_4 : decode cX5_wordsTold 4 = .ok (.iload_n 1, 1) := by decide +kernel
theorem dX5_wordsTold_5 : decode cX5_wordsTold 5 = .ok (.iaload, 1) := by decide +kernel
theorem dX5_wordsTold_6 : decode cX5_wordsTold 6 = .ok (.ifCond .ne 8, 3) := by decide +kernel
theorem dX5_wordsTold_9 : decode cX5_wordsTold 9 = .ok (.bipush (-9), 2) := by decide +kernel
theorem dX5_wordsTold_11 : decode cX5_wordsTold 11 = .ok (.goto 12, 3) := by decide +kernel
theorem dX5_wordsTold_14 : decode cX5_wordsTold 14 = .ok (.aload_n 0, 1) := by decide +kernel
theorem dX5_wordsTold_15 : decode cX5_wordsTold 15 = .ok (.getfield 37, 3) := by decide +kernel
theorem dX5_wordsTold_18 : decode cX5_wordsTold 18 = .ok (.iload_n 1, 1) := by decide +kernel
theorem dX5_wordsTold_19 : decode cX5_wordsTold 19 = .ok (.iaload, 1) := by decide +kernel
theorem dX5_wordsTold_20 : decode cX5_wordsTold 20 = .ok (.invokestatic 110, 3) := by decide +kernel
theorem dX5_wordsTold_23 : decode cX5_wordsTold 23 = .ok (.ireturn, 1) := by decide +kernel
theorem dX5_setOfTold_0 : decode cX5_setOfTold 0 = .ok (.iconst 0, 1) := by decide +kernel
theorem dX5_setOfTold_1 : decode cX5_setOfTold 1 = .ok (.istore_n 1, 1) := by decide +kernel
theorem dX5_setOfTold_2 : decode cX5_setOfTold 2 = .ok (.iconst 0, 1) := by decide +kernel
theorem dX5_setOfTold_3 : decode cX5_setOfTold 3 = .ok (.istore_n 2, 1) := by decide +kernel
theorem dX5_setOfTold_4 : decode cX5_setOfTold 4 = .ok (.iload_n 2, 1) := by decide +kernel
theorem dX5_setOfTold_5 : decode cX5_setOfTold 5 = .ok (.aload_n 0, 1) := by decide +kernel
theorem dX5_setOfTold_6 : decode cX5_setOfTold 6 = .ok (.getfield 19, 3) := by decide +kernel
theorem dX5_setOfTold_9 : decode cX5_setOfTold 9 = .ok (.getfield 83, 3) := by decide +kernel
theorem dX5_setOfTold_12 : decode cX5_setOfTold 12 = .ok (.if_icmp .ge 24, 3) := by decide +kernel
theorem dX5_setOfTold_15 : decode cX5_setOfTold 15 = .ok (.aload_n 0, 1) := by decide +kernel
theorem dX5_setOfTold_16 : decode cX5_setOfTold 16 = .ok (.getfield 37, 3) := by decide +kernel
theorem dX5_setOfTold_19 : decode cX5_setOfTold 19 = .ok (.iload_n 2, 1) := by decide +kernel
theorem dX5_setOfTold_20 : decode cX5_setOfTold 20 = .ok (.iaload, 1) := by decide +kernel
theorem dX5_setOfTold_21 : decode cX5_setOfTold 21 = .ok (.ifCond .eq 9, 3) := by decide +kernel
theorem dX5_setOfTold_24 : decode cX5_setOfTold 24 = .ok (.iload_n 1, 1) := by decide +kernel
theorem dX5_setOfTold_25 : decode cX5_setOfTold 25 = .ok (.iconst 1, 1) := by decide +kernel
theorem dX5_setOfTold_26 : decode cX5_setOfTold 26 = .ok (.iload_n 2, 1) := by decide +kernel
theorem dX5_setOfTold_27 : decode cX5_setOfTold 27 = .ok (.ishl, 1) := by decide +kernel
theorem dX5_setOfTold_28 : decode cX5_setOfTold 28 = .ok (.ior, 1) := by decide +kernel
theorem dX5_setOfTold_29 : decode cX5_setOfTold 29 = .ok (.istore_n 1, 1) := by decide +kernel
theorem dX5_setOfTold_30 : decode cX5_setOfTold 30 = .ok (.iinc 2 1, 3) := by decide +kernel
theorem dX5_setOfTold_33 : decode cX5_setOfTold 33 = .ok (.goto (-29), 3) := by decide +kernel
theorem dX5_setOfTold_36 : decode cX5_setOfTold 36 = .ok (.iload_n 1, 1) := by decide +kernel
theorem dX5_setOfTold_37 : decode cX5_setOfTold 37 = .ok (.ireturn, 1) := by decide +kernel
set_option maxRecDepth 20000 in
theorem ggX5_stateNow_X1_habitsNow : GoodIn wsX5_stateNow wsX1_habitsNow := goodIn_r _ [7, 8, 9, 10, 20, 21, 22, 23, 24, 25, 26] (by decide +kernel) (by decide +kernel)
set_option maxRecDepth 20000 in
theorem gX5_stateNow_X1_habitsNow : GoodIn wsX5_stateNow (wsV RX5 235 RX1 yX1_habitsNow wsX1_habitsNow) := goodIn_app (goodIn_of _ (by decide +kernel)) ggX5_stateNow_X1_habitsNow
theorem dX5_stateNow_0 : decode cX5_stateNow 0 = .ok (.aload_n 0, 1) := by decide +kernel
theorem dX5_stateNow_1 : decode cX5_stateNow 1 = .ok (.getfield 50, 3) := by decide +kernel
theorem dX5_stateNow_4 : decode cX5_stateNow 4 = .ok (.i2l, 1) := by decide +kernel
theorem dX5_stateNow_5 : decode cX5_stateNow 5 = .ok (.bipush 36, 2) := by decide +kernel
theorem dX5_stateNow_7 : decode cX5_stateNow 7 = .ok (.lshl, 1) := by decide +kernel
theorem dX5_stateNow_8 : decode cX5_stateNow 8 = .ok (.aload_n 0, 1) := by decide +kernel
theorem dX5_stateNow_9 : decode cX5_stateNow 9 = .ok (.getfield 19, 3) := by decide +kernel
theorem dX5_stateNow_12 : decode cX5_stateNow 12 = .ok (.invokevirtual 235, 3) := by decide +kernel
theorem dX5_stateNow_15 : decode cX5_stateNow 15 = .ok (.lor, 1) := by decide +kernel
theorem dX5_stateNow_16 : decode cX5_stateNow 16 = .ok (.lreturn, 1) := by decide +kernel
set_option maxRecDepth 20000 in
theorem ggX5_goBackTo_X1_putBack : GoodIn wsX5_goBackTo wsX1_putBack := goodIn_r _ [7, 8, 9, 10, 20, 21, 22, 23, 24, 25, 26] (by decide +kernel) (by decide +kernel)
set_option maxRecDepth 20000 in
theorem gX5_goBackTo_X1_putBack : GoodIn wsX5_goBackTo (wsV RX5 238 RX1 yX1_putBack wsX1_putBack) := goodIn_app (goodIn_of _ (by decide +kernel)) ggX5_goBackTo_X1_putBack
theorem dX5_goBackTo_0 : decode cX5_goBackTo 0 = .ok (.aload_n 0, 1) := by decide +kernel
theorem dX5_goBackTo_1 : decode cX5_goBackTo 1 = .ok (.lload_n 1, 1) := by decide +kernel
theorem dX5_goBackTo_2 : decode cX5_goBackTo 2 = .ok (.bipush 36, 2) := by decide +kernel
theorem dX5_goBackTo_4 : decode cX5_goBackTo 4 = .ok (.lushr, 1) := by decide +kernel
theorem dX5_goBackTo_5 : decode cX5_goBackTo 5 = .ok (.l2i, 1) := by decide +kernel
theorem dX5_goBackTo_6 : decode cX5_goBackTo 6 = .ok (.putfield 50, 3) := by decide +kernel
theorem dX5_goBackTo_9 : decode cX5_goBackTo 9 = .ok (.aload_n 0, 1) := by decide +kernel
theorem dX5_goBackTo_10 : decode cX5_goBackTo 10 = .ok (.getfield 19, 3) := by decide +kernel
theorem dX5_goBackTo_13 : decode cX5_goBackTo 13 = .ok (.lload_n 1, 1) := by decide +kernel
theorem dX5_goBackTo_14 : decode cX5_goBackTo 14 = .ok (.invokevirtual 238, 3) := by decide +kernel
theorem dX5_goBackTo_17 : decode cX5_goBackTo 17 = .ok (.return_, 1) := by decide +kernel
theorem dX5_power_0 : decode cX5_power 0 = .ok (.iconst 1, 1) := by decide +kernel
theorem dX5_power_1 : decode cX5_power 1 = .ok (.istore_n 2, 1) := by decide +kernel
theorem dX5_power_2 : decode cX5_power 2 = .ok (.iconst 0, 1) := by decide +kernel
theorem dX5_power_3 : decode cX5_power 3 = .ok (.istore_n 3, 1) := by decide +kernel
theorem dX5_power_4 : decode cX5_power 4 = .ok (.iload_n 3, 1) := by decide +kernel
theorem dX5_power_5 : decode cX5_power 5 = .ok (.iload_n 1, 1) := by decide +kernel
theorem dX5_power_6 : decode cX5_power 6 = .ok (.if_icmp .ge 13, 3) := by decide +kernel
theorem dX5_power_9 : decode cX5_power 9 = .ok (.iload_n 2, 1) := by decide +kernel
theorem dX5_power_10 : decode cX5_power 10 = .ok (.iload_n 0, 1) := by decide +kernel
theorem dX5_power_11 : decode cX5_power 11 = .ok (.imul, 1) := by decide +kernel
theorem dX5_power_12 : decode cX5_power 12 = .ok (.istore_n 2, 1) := by decide +kernel
theorem dX5_power_13 : decode cX5_power 13 = .ok (.iinc 3 1, 3) := by decide +kernel
theorem dX5_power_16 : decode cX5_power 16 = .ok (.goto (-12), 3) := by decide +kernel
theorem dX5_power_19 : decode cX5_power 19 = .ok (.iload_n 2, 1) := by decide +kernel
theorem dX5_power_20 : decode cX5_power 20 = .ok (.ireturn, 1) := by decide +kernel
set_option maxRecDepth 20000 in
theorem ggX5_partOfFraction_X5_commonDivisor : GoodIn wsX5_partOfFraction wsX5_commonDivisor := goodIn_r _ [8] (by decide +kernel) (by decide +kernel)
set_option maxRecDepth 20000 in
theorem gX5_partOfFraction_X5_commonDivisor : GoodIn wsX5_partOfFraction (va_wsS RX5 241 yX5_commonDivisor wsX5_commonDivisor) := goodIn_app (goodIn_of _ (by decide +kernel)) ggX5_partOfFraction_X5_commonDivisor
theorem dX5_partOfFraction_0 : decode cX5_partOfFraction 0 = .ok (.iconst 1, 1) := by decide +kernel
theorem dX5_partOfFraction_1 : decode cX5_partOfFraction 1 = .ok (.iload_n 0, 1) := by decide +kernel
theorem dX5_partOfFraction_2 : decode cX5_partOfFraction 2 = .ok (.iload_n 1, 1) := by decide +kernel
theorem dX5_partOfFraction_3 : decode cX5_partOfFraction 3 = .ok (.invokestatic 241, 3) := by decide +kernel
theorem dX5_partOfFraction_6 : decode cX5_partOfFraction 6 = .ok (.invokestatic 244, 3) := by decide +kernel
theorem dX5_partOfFraction_9 : decode cX5_partOfFraction 9 = .ok (.istore_n 3, 1) := by decide +kernel
theorem dX5_partOfFraction_10 : decode cX5_partOfFraction 10 = .ok (.iload_n 2, 1) := by decide +kernel
theorem dX5_partOfFraction_11 : decode cX5_partOfFraction 11 = .ok (.ifCond .eq 7, 3) := by decide +kernel
theorem dX5_partOfFraction_14 : decode cX5_partOfFraction 14 = .ok (.iload_n 0, 1) := by decide +kernel
theorem dX5_partOfFraction_15 : decode cX5_partOfFraction 15 = .ok (.goto 4, 3) := by decide +kernel
theorem dX5_partOfFraction_18 : decode cX5_partOfFraction 18 = .ok (.iload_n 1, 1) := by decide +kernel
theorem dX5_partOfFraction_19 : decode cX5_partOfFraction 19 = .ok (.iload_n 3, 1) := by decide +kernel
theorem dX5_partOfFraction_20 : decode cX5_partOfFraction 20 = .ok (.idiv, 1) := by decide +kernel
theorem dX5_partOfFraction_21 : decode cX5_partOfFraction 21 = .ok (.ireturn, 1) := by decide +kernel
theorem dX5_commonDivisor_0 : decode cX5_commonDivisor 0 = .ok (.iload_n 0, 1) := by decide +kernel
theorem dX5_commonDivisor_1 : decode cX5_commonDivisor 1 = .ok (.istore_n 2, 1) := by decide +kernel
theorem dX5_commonDivisor_2 : decode cX5_commonDivisor 2 = .ok (.iload_n 1, 1) := by decide +kernel
theorem dX5_commonDivisor_3 : decode cX5_commonDivisor 3 = .ok (.istore_n 3, 1) := by decide +kernel
theorem dX5_commonDivisor_4 : decode cX5_commonDivisor 4 = .ok (.iconst 0, 1) := by decide +kernel
theorem dX5_commonDivisor_5 : decode cX5_commonDivisor 5 = .ok (.istore 4, 2) := by decide +kernel
theorem dX5_commonDivisor_7 : decode cX5_commonDivisor 7 = .ok (.iload 4, 2) := by decide +kernel
theorem dX5_commonDivisor_9 : decode cX5_commonDivisor 9 = .ok (.bipush 64, 2) := by decide +kernel
theorem dX5_commonDivisor_11 : decode cX5_commonDivisor 11 = .ok (.if_icmp .ge 23, 3) := by decide +kernel
theorem dX5_commonDivisor_14 : decode cX5_commonDivisor 14 = .ok (.iload_n 3, 1) := by decide +kernel
theorem dX5_commonDivisor_15 : decode cX5_commonDivisor 15 = .ok (.ifCond .eq 19, 3) := by decide +kernel
theorem dX5_commonDivisor_18 : decode cX5_commonDivisor 18 = .ok (.iload_n 2, 1) := by decide +kernel
theorem dX5_commonDivisor_19 : decode cX5_commonDivisor 19 = .ok (.iload_n 3, 1) := by decide +kernel
theorem dX5_commonDivisor_20 : decode cX5_commonDivisor 20 = .ok (.irem, 1) := by decide +kernel
theorem dX5_commonDivisor_21 : decode cX5_commonDivisor 21 = .ok (.istore 5, 2) := by decide +kernel
theorem dX5_commonDivisor_23 : decode cX5_commonDivisor 23 = .ok (.iload_n 3, 1) := by decide +kernel
theorem dX5_commonDivisor_24 : decode cX5_commonDivisor 24 = .ok (.istore_n 2, 1) := by decide +kernel
theorem dX5_commonDivisor_25 : decode cX5_commonDivisor 25 = .ok (.iload 5, 2) := by decide +kernel
theorem dX5_commonDivisor_27 : decode cX5_commonDivisor 27 = .ok (.istore_n 3, 1) := by decide +kernel
theorem dX5_commonDivisor_28 : decode cX5_commonDivisor 28 = .ok (.iinc 4 1, 3) := by decide +kernel
theorem dX5_commonDivisor_31 : decode cX5_commonDivisor 31 = .ok (.goto (-24), 3) := by decide +kernel
theorem dX5_commonDivisor_34 : decode cX5_commonDivisor 34 = .ok (.iload_n 2, 1) := by decide +kernel
theorem dX5_commonDivisor_35 : decode cX5_commonDivisor 35 = .ok (.ireturn, 1) := by decide +kernel
set_option maxRecDepth 20000 in
theorem ggX5_isAsTold_X1_takeDownBy : GoodIn wsX5_isAsTold wsX1_takeDownBy := goodIn_r _ [9, 10, 11, 12, 13, 14, 8, 15, 16, 17, 18, 19, 20, 21, 22, 23, 24, 25, 26, 27, 28, 29, 30, 31, 32, 33, 34, 35, 45, 46, 47, 48, 49, 50, 51] (by decide +kernel) (by decide +kernel)
set_option maxRecDepth 20000 in
theorem gX5_isAsTold_X1_takeDownBy : GoodIn wsX5_isAsTold (wsV RX5 249 RX1 yX1_takeDownBy wsX1_takeDownBy) := goodIn_app (goodIn_of _ (by decide +kernel)) ggX5_isAsTold_X1_takeDownBy
theorem dX5_isAsTold_0 : decode cX5_isAsTold 0 = .ok (.iconst 0, 1) := by decide +kernel
theorem dX5_isAsTold_1 : decode cX5_isAsTold 1 = .ok (.istore_n 2, 1) := by decide +kernel
theorem dX5_isAsTold_2 : decode cX5_isAsTold 2 = .ok (.iload_n 2, 1) := by decide +kernel
theorem dX5_isAsTold_3 : decode cX5_isAsTold 3 = .ok (.aload_n 0, 1) := by decide +kernel
theorem dX5_isAsTold_4 : decode cX5_isAsTold 4 = .ok (.getfield 19, 3) := by decide +kernel
theorem dX5_isAsTold_7 : decode cX5_isAsTold 7 = .ok (.getfield 83, 3) := by decide +kernel
theorem dX5_isAsTold_10 : decode cX5_isAsTold 10 = .ok (.if_icmp .ge 47, 3) := by decide +kernel
theorem dX5_isAsTold_13 : decode cX5_isAsTold 13 = .ok (.aload_n 0, 1) := by decide +kernel
theorem dX5_isAsTold_14 : decode cX5_isAsTold 14 = .ok (.getfield 19, 3) := by decide +kernel
theorem dX5_isAsTold_17 : decode cX5_isAsTold 17 = .ok (.iload_n 2, 1) := by decide +kernel
theorem dX5_isAsTold_18 : decode cX5_isAsTold 18 = .ok (.iload_n 1, 1) := by decide +kernel
theorem dX5_isAsTold_19 : decode cX5_isAsTold 19 = .ok (.invokevirtual 249, 3) := by decide +kernel
theorem dX5_isAsTold_22 : decode cX5_isAsTold 22 = .ok (.aload_n 0, 1) := by decide +kernel
theorem dX5_isAsTold_23 : decode cX5_isAsTold 23 = .ok (.getfield 37, 3) := by decide +kernel
theorem dX5_isAsTold_26 : decode cX5_isAsTold 26 = .ok (.iload_n 2, 1) := by decide +kernel
theorem dX5_isAsTold_27 : decode cX5_isAsTold 27 = .ok (.iaload, 1) := by decide +kernel
theorem dX5_isAsTold_28 : decode cX5_isAsTold 28 = .ok (.ifCond .eq 23, 3) := by decide +kernel
theorem dX5_isAsTold_31 : decode cX5_isAsTold 31 = .ok (.aload_n 0, 1) := by decide +kernel
theorem dX5_isAsTold_32 : decode cX5_isAsTold 32 = .ok (.getfield 37, 3) := by decide +kernel
theorem dX5_isAsTold_35 : decode cX5_isAsTold 35 = .ok (.iload_n 2, 1) := by decide +kernel
theorem dX5_isAsTold_36 : decode cX5_isAsTold 36 = .ok (.iaload, 1) := by decide +kernel
theorem dX5_isAsTold_37 : decode cX5_isAsTold 37 = .ok (.aload_n 0, 1) := by decide +kernel
theorem dX5_isAsTold_38 : decode cX5_isAsTold 38 = .ok (.getfield 19, 3) := by decide +kernel
theorem dX5_isAsTold_41 : decode cX5_isAsTold 41 = .ok (.getfield 193, 3) := by decide +kernel
theorem dX5_isAsTold_44 : decode cX5_isAsTold 44 = .ok (.iload_n 2, 1) := by decide +kernel
theorem dX5_isAsTold_45 : decode cX5_isAsTold 45 = .ok (.iaload, 1) := by decide +kernel
theorem dX5_isAsTold_46 : decode cX5_isAsTold 46 = .ok (.if_icmp .eq 5, 3) := by decide +kernel
theorem dX5_isAsTold_49 : decode cX5_isAsTold 49 = .ok (.iconst 0, 1) := by decide +kernel
theorem dX5_isAsTold_50 : decode cX5_isAsTold 50 = .ok (.ireturn, 1) := by decide +kernel
theorem dX5_isAsTold_51 : decode cX5_isAsTold 51 = .ok (.iinc 2 1, 3) := by decide +kernel
theorem dX5_isAsTold_54 : decode cX5_isAsTold 54 = .ok (.goto (-52), 3) := by decide +kernel
theorem dX5_isAsTold_57 : decode cX5_isAsTold 57 = .ok (.iconst 1, 1) := by decide +kernel
theorem dX5_isAsTold_58 : decode cX5_isAsTold 58 = .ok (.ireturn, 1) := by decide +kernel
set_option maxRecDepth 20000 in
theorem ggX5_mostAlike_X3_clear : GoodIn wsX5_mostAlike wsX3_clear := goodIn_r _ [12, 13, 14, 15, 16, 17, 82] (by decide +kernel) (by decide +kernel)
set_option maxRecDepth 20000 in
theorem gX5_mostAlike_X3_clear : GoodIn wsX5_mostAlike (wsV RX5 253 RX3 yX3_clear wsX3_clear) := goodIn_app (goodIn_of _ (by decide +kernel)) ggX5_mostAlike_X3_clear
set_option maxRecDepth 20000 in
theorem ggX5_mostAlike_X4_endOf : GoodIn wsX5_mostAlike wsX4_endOf := goodIn_r _ [21] (by decide +kernel) (by decide +kernel)
set_option maxRecDepth 20000 in
theorem gX5_mostAlike_X4_endOf : GoodIn wsX5_mostAlike (va_wsS RX5 150 yX4_endOf wsX4_endOf) := goodIn_app (goodIn_of _ (by decide +kernel)) ggX5_mostAlike_X4_endOf
set_option maxRecDepth 20000 in
theorem ggX5_mostAlike_X4_firstOf : GoodIn wsX5_mostAlike wsX4_firstOf := goodIn_r _ [24] (by decide +kernel) (by decide +kernel)
set_option maxRecDepth 20000 in
theorem gX5_mostAlike_X4_firstOf : GoodIn wsX5_mostAlike (va_wsS RX5 153 yX4_firstOf wsX4_firstOf) := goodIn_app (goodIn_of _ (by decide +kernel)) ggX5_mostAlike_X4_firstOf
set_option maxRecDepth 20000 in
theorem ggX5_mostAlike_X5_isAsTold : GoodIn wsX5_mostAlike wsX5_isAsTold := goodIn_r _ [29, 2, 30, 31, 3, 32, 33, 34, 35, 36, 37, 38, 39, 40, 41, 42, 43, 44, 45, 46, 47, 48, 49, 50, 51, 20, 52, 53, 54, 55, 56, 57, 58, 59, 60, 61, 66, 67, 68, 69, 70, 71, 72, 73, 74, 75, 76, 77, 78, 79, 80, 81] (by decide +kernel) (by decide +kernel)
set_option maxRecDepth 20000 in
theorem gX5_mostAlike_X5_isAsTold : GoodIn wsX5_mostAlike (wsV RX5 156 RX5 yX5_isAsTold wsX5_isAsTold) := goodIn_app (goodIn_of _ (by decide +kernel)) ggX5_mostAlike_X5_isAsTold
set_option maxRecDepth 20000 in
theorem ggX5_mostAlike_X3_putPage : GoodIn wsX5_mostAlike wsX3_putPage := goodIn_r _ [65, 13, 82] (by decide +kernel) (by decide +kernel)
set_option maxRecDepth 20000 in
theorem gX5_mostAlike_X3_putPage : GoodIn wsX5_mostAlike (wsV RX5 256 RX3 yX3_putPage wsX3_putPage) := goodIn_app (goodIn_of _ (by decide +kernel)) ggX5_mostAlike_X3_putPage
theorem dX5_mostAlike_0 : decode cX5_mostAlike 0 = .ok (.aload_n 0, 1) := by decide +kernel
theorem dX5_mostAlike_1 : decode cX5_mostAlike 1 = .ok (.getfield 33, 3) := by decide +kernel
theorem dX5_mostAlike_4 : decode cX5_mostAlike 4 = .ok (.invokevirtual 253, 3) := by decide +kernel
theorem dX5_mostAlike_7 : decode cX5_mostAlike 7 = .ok (.iconst 0, 1) := by decide +kernel
theorem dX5_mostAlike_8 : decode cX5_mostAlike 8 = .ok (.istore_n 3, 1) := by decide +kernel
theorem dX5_mostAlike_9 : decode cX5_mostAlike 9 = .ok (.iload_n 1, 1) := by decide +kernel
theorem dX5_mostAlike_10 : decode cX5_mostAlike 10 = .ok (.invokestatic 150, 3) := by decide +kernel
theorem dX5_mostAlike_13 : decode cX5_mostAlike 13 = .ok (.istore 4, 2) := by decide +kernel
theorem dX5_mostAlike_15 : decode cX5_mostAlike 15 = .ok (.iload_n 1, 1) := by decide +kernel
theorem dX5_mostAlike_16 : decode cX5_mostAlike 16 = .ok (.invokestatic 153, 3) := by decide +kernel
theorem dX5_mostAlike_19 : decode cX5_mostAlike 19 = .ok (.istore 5, 2) := by decide +kernel
theorem dX5_mostAlike_21 : decode cX5_mostAlike 21 = .ok (.iload 5, 2) := by decide +kernel
theorem dX5_mostAlike_23 : decode cX5_mostAlike 23 = .ok (.iload 4, 2) := by decide +kernel
theorem dX5_mostAlike_25 : decode cX5_mostAlike 25 = .ok (.if_icmp .ge 39, 3) := by decide +kernel
theorem dX5_mostAlike_28 : decode cX5_mostAlike 28 = .ok (.aload_n 0, 1) := by decide +kernel
theorem dX5_mostAlike_29 : decode cX5_mostAlike 29 = .ok (.iload 5, 2) := by decide +kernel
theorem dX5_mostAlike_31 : decode cX5_mostAlike 31 = .ok (.invokevirtual 156, 3) := by decide +kernel
theorem dX5_mostAlike_34 : decode cX5_mostAlike 34 = .ok (.ifCond .eq 24, 3) := by decide +kernel
theorem dX5_mostAlike_37 : decode cX5_mostAlike 37 = .ok (.iload_n 3, 1) := by decide +kernel
theorem dX5_mostAlike_38 : decode cX5_mostAlike 38 = .ok (.aload_n 0, 1) := by decide +kernel
theorem dX5_mostAlike_39 : decode cX5_mostAlike 39 = .ok (.getfield 33, 3) := by decide +kernel
theorem dX5_mostAlike_42 : decode cX5_mostAlike 42 = .ok (.aload_n 0, 1) := by decide +kernel
theorem dX5_mostAlike_43 : decode cX5_mostAlike 43 = .ok (.getfield 19, 3) := by decide +kernel
theorem dX5_mostAlike_46 : decode cX5_mostAlike 46 = .ok (.getfield 193, 3) := by decide +kernel
theorem dX5_mostAlike_49 : decode cX5_mostAlike 49 = .ok (.iload_n 2, 1) := by decide +kernel
theorem dX5_mostAlike_50 : decode cX5_mostAlike 50 = .ok (.iaload, 1) := by decide +kernel
theorem dX5_mostAlike_51 : decode cX5_mostAlike 51 = .ok (.invokevirtual 256, 3) := by decide +kernel
theorem dX5_mostAlike_54 : decode cX5_mostAlike 54 = .ok (.invokestatic 244, 3) := by decide +kernel
theorem dX5_mostAlike_57 : decode cX5_mostAlike 57 = .ok (.istore_n 3, 1) := by decide +kernel
theorem dX5_mostAlike_58 : decode cX5_mostAlike 58 = .ok (.iinc 5 1, 3) := by decide +kernel
theorem dX5_mostAlike_61 : decode cX5_mostAlike 61 = .ok (.goto (-40), 3) := by decide +kernel
theorem dX5_mostAlike_64 : decode cX5_mostAlike 64 = .ok (.iload_n 3, 1) := by decide +kernel
theorem dX5_mostAlike_65 : decode cX5_mostAlike 65 = .ok (.ireturn, 1) := by decide +kernel
theorem dX5_dropsOf_0 : decode cX5_dropsOf 0 = .ok (.iload_n 0, 1) := by decide +kernel
theorem dX5_dropsOf_1 : decode cX5_dropsOf 1 = .ok (.sipush 250, 3) := by decide +kernel
theorem dX5_dropsOf_4 : decode cX5_dropsOf 4 = .ok (.idiv, 1) := by decide +kernel
theorem dX5_dropsOf_5 : decode cX5_dropsOf 5 = .ok (.ireturn, 1) := by decide +kernel
theorem dX5_fromOf_0 : decode cX5_fromOf 0 = .ok (.iload_n 0, 1) := by decide +kernel
theorem dX5_fromOf_1 : decode cX5_fromOf 1 = .ok (.bipush 50, 2) := by decide +kernel
theorem dX5_fromOf_3 : decode cX5_fromOf 3 = .ok (.idiv, 1) := by decide +kernel
theorem dX5_fromOf_4 : decode cX5_fromOf 4 = .ok (.iconst 5, 1) := by decide +kernel
theorem dX5_fromOf_5 : decode cX5_fromOf 5 = .ok (.irem, 1) := by decide +kernel
theorem dX5_fromOf_6 : decode cX5_fromOf 6 = .ok (.ireturn, 1) := by decide +kernel
theorem dX5_toOf_0 : decode cX5_toOf 0 = .ok (.iload_n 0, 1) := by decide +kernel
theorem dX5_toOf_1 : decode cX5_toOf 1 = .ok (.bipush 10, 2) := by decide +kernel
theorem dX5_toOf_3 : decode cX5_toOf 3 = .ok (.idiv, 1) := by decide +kernel
theorem dX5_toOf_4 : decode cX5_toOf 4 = .ok (.iconst 5, 1) := by decide +kernel
theorem dX5_toOf_5 : decode cX5_toOf 5 = .ok (.irem, 1) := by decide +kernel
theorem dX5_toOf_6 : decode cX5_toOf 6 = .ok (.ireturn, 1) := by decide +kernel
theorem dX5_tiresOf_0 : decode cX5_tiresOf 0 = .ok (.iload_n 0, 1) := by decide +kernel
theorem dX5_tiresOf_1 : decode cX5_tiresOf 1 = .ok (.bipush 10, 2) := by decide +kernel
theorem dX5_tiresOf_3 : decode cX5_tiresOf 3 = .ok (.irem, 1) := by decide +kernel
theorem dX5_tiresOf_4 : decode cX5_tiresOf 4 = .ok (.ireturn, 1) := by decide +kernel
set_option maxRecDepth 20000 in
theorem ggX5_habitGives_X5_fromOf : GoodIn wsX5_habitGives wsX5_fromOf := goodIn_r _ [5] (by decide +kernel) (by decide +kernel)
set_option maxRecDepth 20000 in
theorem gX5_habitGives_X5_fromOf : GoodIn wsX5_habitGives (va_wsS RX5 175 yX5_fromOf wsX5_fromOf) := goodIn_app (goodIn_of _ (by decide +kernel)) ggX5_habitGives_X5_fromOf
set_option maxRecDepth 20000 in
theorem ggX5_habitGives_X5_toOf : GoodIn wsX5_habitGives wsX5_toOf := goodIn_r _ [8] (by decide +kernel) (by decide +kernel)
set_option maxRecDepth 20000 in
theorem gX5_habitGives_X5_toOf : GoodIn wsX5_habitGives (va_wsS RX5 178 yX5_toOf wsX5_toOf) := goodIn_app (goodIn_of _ (by decide +kernel)) ggX5_habitGives_X5_toOf
set_option maxRecDepth 20000 in
theorem ggX5_habitGives_X5_dropsOf : GoodIn wsX5_habitGives wsX5_dropsOf := goodIn_r _ [11] (by decide +kernel) (by decide +kernel)
set_option maxRecDepth 20000 in
theorem gX5_habitGives_X5_dropsOf : GoodIn wsX5_habitGives (va_wsS RX5 172 yX5_dropsOf wsX5_dropsOf) := goodIn_app (goodIn_of _ (by decide +kernel)) ggX5_habitGives_X5_dropsOf
set_option maxRecDepth 20000 in
theorem ggX5_habitGives_X5_tiresOf : GoodIn wsX5_habitGives wsX5_tiresOf := goodIn_r _ [14] (by decide +kernel) (by decide +kernel)
set_option maxRecDepth 20000 in
theorem gX5_habitGives_X5_tiresOf : GoodIn wsX5_habitGives (va_wsS RX5 181 yX5_tiresOf wsX5_tiresOf) := goodIn_app (goodIn_of _ (by decide +kernel)) ggX5_habitGives_X5_tiresOf
set_option maxRecDepth 20000 in
theorem ggX5_habitGives_X1_taken : GoodIn wsX5_habitGives wsX1_taken := goodIn_r _ [18, 19, 20, 21, 22, 23, 24, 25, 26, 27, 17, 28, 29, 30, 31] (by decide +kernel) (by decide +kernel)
set_option maxRecDepth 20000 in
theorem gX5_habitGives_X1_taken : GoodIn wsX5_habitGives (va_wsS RX5 259 yX1_taken wsX1_taken) := goodIn_app (goodIn_of _ (by decide +kernel)) ggX5_habitGives_X1_taken
theorem dX5_habitGives_0 : decode cX5_habitGives 0 = .ok (.iload_n 1, 1) := by decide +kernel
theorem dX5_habitGives_1 : decode cX5_habitGives 1 = .ok (.invokestatic 175, 3) := by decide +kernel
theorem dX5_habitGives_4 : decode cX5_habitGives 4 = .ok (.istore_n 3, 1) := by decide +kernel
theorem dX5_habitGives_5 : decode cX5_habitGives 5 = .ok (.iload_n 1, 1) := by decide +kernel
theorem dX5_habitGives_6 : decode cX5_habitGives 6 = .ok (.invokestatic 178, 3) := by decide +kernel
theorem dX5_habitGives_9 : decode cX5_habitGives 9 = .ok (.istore 4, 2) := by decide +kernel
theorem dX5_habitGives_11 : decode cX5_habitGives 11 = .ok (.iload_n 3, 1) := by decide +kernel
theorem dX5_habitGives_12 : decode cX5_habitGives 12 = .ok (.ifCond .ne 16, 3) := by decide +kernel
theorem dX5_habitGives_15 : decode cX5_habitGives 15 = .ok (.iload 4, 2) := by decide +kernel
theorem dX5_habitGives_17 : decode cX5_habitGives 17 = .ok (.ifCond .ne 7, 3) := by decide +kernel
theorem dX5_habitGives_20 : decode cX5_habitGives 20 = .ok (.iconst 1, 1) := by decide +kernel
theorem dX5_habitGives_21 : decode cX5_habitGives 21 = .ok (.goto 23, 3) := by decide +kernel
theorem dX5_habitGives_24 : decode cX5_habitGives 24 = .ok (.iconst 0, 1) := by decide +kernel
theorem dX5_habitGives_25 : decode cX5_habitGives 25 = .ok (.goto 19, 3) := by decide +kernel
theorem dX5_habitGives_28 : decode cX5_habitGives 28 = .ok (.iload 4, 2) := by decide +kernel
theorem dX5_habitGives_30 : decode cX5_habitGives 30 = .ok (.ifCond .eq 13, 3) := by decide +kernel
theorem dX5_habitGives_33 : decode cX5_habitGives 33 = .ok (.iload 4, 2) := by decide +kernel
theorem dX5_habitGives_35 : decode cX5_habitGives 35 = .ok (.iload_n 3, 1) := by decide +kernel
theorem dX5_habitGives_36 : decode cX5_habitGives 36 = .ok (.if_icmp .eq 7, 3) := by decide +kernel
theorem dX5_habitGives_39 : decode cX5_habitGives 39 = .ok (.iconst 1, 1) := by decide +kernel
theorem dX5_habitGives_40 : decode cX5_habitGives 40 = .ok (.goto 4, 3) := by decide +kernel
theorem dX5_habitGives_43 : decode cX5_habitGives 43 = .ok (.iconst 0, 1) := by decide +kernel
theorem dX5_habitGives_44 : decode cX5_habitGives 44 = .ok (.istore 5, 2) := by decide +kernel
theorem dX5_habitGives_46 : decode cX5_habitGives 46 = .ok (.iload 5, 2) := by decide +kernel
theorem dX5_habitGives_48 : decode cX5_habitGives 48 = .ok (.ifCond .eq 29, 3) := by decide +kernel
theorem dX5_habitGives_51 : decode cX5_habitGives 51 = .ok (.aload_n 0, 1) := by decide +kernel
theorem dX5_habitGives_52 : decode cX5_habitGives 52 = .ok (.getfield 50, 3) := by decide +kernel
theorem dX5_habitGives_55 : decode cX5_habitGives 55 = .ok (.iload_n 1, 1) := by decide +kernel
theorem dX5_habitGives_56 : decode cX5_habitGives 56 = .ok (.invokestatic 172, 3) := by decide +kernel
theorem dX5_habitGives_59 : decode cX5_habitGives 59 = .ok (.iload_n 3, 1) := by decide +kernel
theorem dX5_habitGives_60 : decode cX5_habitGives 60 = .ok (.iload 4, 2) := by decide +kernel
theorem dX5_habitGives_62 : decode cX5_habitGives 62 = .ok (.iload_n 1, 1) := by decide +kernel
theorem dX5_habitGives_63 : decode cX5_habitGives 63 = .ok (.invokestatic 181, 3) := by decide +kernel
theorem dX5_habitGives_66 : decode cX5_habitGives 66 = .ok (.invokestatic 259, 3) := by decide +kernel
theorem dX5_habitGives_69 : decode cX5_habitGives 69 = .ok (.iload_n 2, 1) := by decide +kernel
theorem dX5_habitGives_70 : decode cX5_habitGives 70 = .ok (.if_icmp .ne 7, 3) := by decide +kernel
theorem dX5_habitGives_73 : decode cX5_habitGives 73 = .ok (.iconst 1, 1) := by decide +kernel
theorem dX5_habitGives_74 : decode cX5_habitGives 74 = .ok (.goto 4, 3) := by decide +kernel
theorem dX5_habitGives_77 : decode cX5_habitGives 77 = .ok (.iconst 0, 1) := by decide +kernel
theorem dX5_habitGives_78 : decode cX5_habitGives 78 = .ok (.ireturn, 1) := by decide +kernel
set_option maxRecDepth 20000 in
theorem ggX5_ordersThatGive_X4_leavesIn : GoodIn wsX5_ordersThatGive wsX4_leavesIn := goodIn_r _ [4, 5, 6, 3, 7] (by decide +kernel) (by decide +kernel)
set_option maxRecDepth 20000 in
theorem gX5_ordersThatGive_X4_leavesIn : GoodIn wsX5_ordersThatGive (va_wsS RX5 263 yX4_leavesIn wsX4_leavesIn) := goodIn_app (goodIn_of _ (by decide +kernel)) ggX5_ordersThatGive_X4_leavesIn
set_option maxRecDepth 20000 in
theorem ggX5_ordersThatGive_X4_withLeaf : GoodIn wsX5_ordersThatGive wsX4_withLeaf := goodIn_r _ [10, 11, 12, 13, 14, 5, 6, 3, 7, 15, 16, 17, 18, 19, 20] (by decide +kernel) (by decide +kernel)
set_option maxRecDepth 20000 in
theorem gX5_ordersThatGive_X4_withLeaf : GoodIn wsX5_ordersThatGive (va_wsS RX5 266 yX4_withLeaf wsX4_withLeaf) := goodIn_app (goodIn_of _ (by decide +kernel)) ggX5_ordersThatGive_X4_withLeaf
set_option maxRecDepth 20000 in
theorem ggX5_ordersThatGive_X5_ordersThatGive : GoodIn wsX5_ordersThatGive wsX5_ordersThatGive := goodIn_r _ [0, 1, 2, 3, 4, 5, 6, 7, 8, 9, 10, 11, 12, 13, 14, 15, 16, 17, 18, 19, 20, 21, 22, 23] (by decide +kernel) (by decide +kernel)
set_option maxRecDepth 20000 in
theorem gX5_ordersThatGive_X5_ordersThatGive : GoodIn wsX5_ordersThatGive (va_wsS RX5 196 yX5_ordersThatGive wsX5_ordersThatGive) := goodIn_app (goodIn_of _ (by decide +kernel)) ggX5_ordersThatGive_X5_ordersThatGive
theorem dX5_ordersThatGive_0 : decode cX5_ordersThatGive 0 = .ok (.iload_n 1, 1) := by decide +kernel
theorem dX5_ordersThatGive_1 : decode cX5_ordersThatGive 1 = .ok (.invokestatic 263, 3) := by decide +kernel
theorem dX5_ordersThatGive_4 : decode cX5_ordersThatGive 4 = .ok (.istore 4, 2) := by decide +kernel
theorem dX5_ordersThatGive_6 : decode cX5_ordersThatGive 6 = .ok (.iload_n 3, 1) := by decide +kernel
theorem dX5_ordersThatGive_7 : decode cX5_ordersThatGive 7 = .ok (.iconst 1, 1) := by decide +kernel
theorem dX5_ordersThatGive_8 : decode cX5_ordersThatGive 8 = .ok (.iload 4, 2) := by decide +kernel
theorem dX5_ordersThatGive_10 : decode cX5_ordersThatGive 10 = .ok (.ishl, 1) := by decide +kernel
theorem dX5_ordersThatGive_11 : decode cX5_ordersThatGive 11 = .ok (.iconst 1, 1) := by decide +kernel
theorem dX5_ordersThatGive_12 : decode cX5_ordersThatGive 12 = .ok (.isub, 1) := by decide +kernel
theorem dX5_ordersThatGive_13 : decode cX5_ordersThatGive 13 = .ok (.if_icmp .ne 14, 3) := by decide +kernel
theorem dX5_ordersThatGive_16 : decode cX5_ordersThatGive 16 = .ok (.iload_n 2, 1) := by decide +kernel
theorem dX5_ordersThatGive_17 : decode cX5_ordersThatGive 17 = .ok (.iload_n 0, 1) := by decide +kernel
theorem dX5_ordersThatGive_18 : decode cX5_ordersThatGive 18 = .ok (.if_icmp .ne 7, 3) := by decide +kernel
theorem dX5_ordersThatGive_21 : decode cX5_ordersThatGive 21 = .ok (.iconst 1, 1) := by decide +kernel
theorem dX5_ordersThatGive_22 : decode cX5_ordersThatGive 22 = .ok (.goto 4, 3) := by decide +kernel
theorem dX5_ordersThatGive_25 : decode cX5_ordersThatGive 25 = .ok (.iconst 0, 1) := by decide +kernel
theorem dX5_ordersThatGive_26 : decode cX5_ordersThatGive 26 = .ok (.ireturn, 1) := by decide +kernel
theorem dX5_ordersThatGive_27 : decode cX5_ordersThatGive 27 = .ok (.iconst 0, 1) := by decide +kernel
theorem dX5_ordersThatGive_28 : decode cX5_ordersThatGive 28 = .ok (.istore 5, 2) := by decide +kernel
theorem dX5_ordersThatGive_30 : decode cX5_ordersThatGive 30 = .ok (.iconst 0, 1) := by decide +kernel
theorem dX5_ordersThatGive_31 : decode cX5_ordersThatGive 31 = .ok (.istore 6, 2) := by decide +kernel
theorem dX5_ordersThatGive_33 : decode cX5_ordersThatGive 33 = .ok (.iload 6, 2) := by decide +kernel
theorem dX5_ordersThatGive_35 : decode cX5_ordersThatGive 35 = .ok (.iload 4, 2) := by decide +kernel
theorem dX5_ordersThatGive_37 : decode cX5_ordersThatGive 37 = .ok (.if_icmp .ge 43, 3) := by decide +kernel
theorem dX5_ordersThatGive_40 : decode cX5_ordersThatGive 40 = .ok (.iconst 1, 1) := by decide +kernel
theorem dX5_ordersThatGive_41 : decode cX5_ordersThatGive 41 = .ok (.iload 6, 2) := by decide +kernel
theorem dX5_ordersThatGive_43 : decode cX5_ordersThatGive 43 = .ok (.ishl, 1) := by decide +kernel
theorem dX5_ordersThatGive_44 : decode cX5_ordersThatGive 44 = .ok (.istore 7, 2) := by decide +kernel
theorem dX5_ordersThatGive_46 : decode cX5_ordersThatGive 46 = .ok (.iload_n 3, 1) := by decide +kernel
theorem dX5_ordersThatGive_47 : decode cX5_ordersThatGive 47 = .ok (.iload 7, 2) := by decide +kernel
theorem dX5_ordersThatGive_49 : decode cX5_ordersThatGive 49 = .ok (.iand, 1) := by decide +kernel
theorem dX5_ordersThatGive_50 : decode cX5_ordersThatGive 50 = .ok (.ifCond .ne 24, 3) := by decide +kernel
theorem dX5_ordersThatGive_53 : decode cX5_ordersThatGive 53 = .ok (.iload 5, 2) := by decide +kernel
theorem dX5_ordersThatGive_55 : decode cX5_ordersThatGive 55 = .ok (.iload_n 0, 1) := by decide +kernel
theorem dX5_ordersThatGive_56 : decode cX5_ordersThatGive 56 = .ok (.iload_n 1, 1) := by decide +kernel
theorem dX5_ordersThatGive_57 : decode cX5_ordersThatGive 57 = .ok (.iload_n 2, 1) := by decide +kernel
theorem dX5_ordersThatGive_58 : decode cX5_ordersThatGive 58 = .ok (.iload_n 1, 1) := by decide +kernel
theorem dX5_ordersThatGive_59 : decode cX5_ordersThatGive 59 = .ok (.iload 6, 2) := by decide +kernel
theorem dX5_ordersThatGive_61 : decode cX5_ordersThatGive 61 = .ok (.invokestatic 266, 3) := by decide +kernel
theorem dX5_ordersThatGive_64 : decode cX5_ordersThatGive 64 = .ok (.iload_n 3, 1) := by decide +kernel
theorem dX5_ordersThatGive_65 : decode cX5_ordersThatGive 65 = .ok (.iload 7, 2) := by decide +kernel
theorem dX5_ordersThatGive_67 : decode cX5_ordersThatGive 67 = .ok (.ior, 1) := by decide +kernel
theorem dX5_ordersThatGive_68 : decode cX5_ordersThatGive 68 = .ok (.invokestatic 196, 3) := by decide +kernel
theorem dX5_ordersThatGive_71 : decode cX5_ordersThatGive 71 = .ok (.iadd, 1) := by decide +kernel
theorem dX5_ordersThatGive_72 : decode cX5_ordersThatGive 72 = .ok (.istore 5, 2) := by decide +kernel
theorem dX5_ordersThatGive_74 : decode cX5_ordersThatGive 74 = .ok (.iinc 6 1, 3) := by decide +kernel
theorem dX5_ordersThatGive_77 : decode cX5_ordersThatGive 77 = .ok (.goto (-44), 3) := by decide +kernel
theorem dX5_ordersThatGive_80 : decode cX5_ordersThatGive 80 = .ok (.iload 5, 2) := by decide +kernel
theorem dX5_ordersThatGive_82 : decode cX5_ordersThatGive 82 = .ok (.ireturn, 1) := by decide +kernel
set_option maxRecDepth 20000 in
theorem ggX5_tellsAllApart_X3_clear : GoodIn wsX5_tellsAllApart wsX3_clear := goodIn_r _ [7, 8, 9, 10, 11, 12, 73] (by decide +kernel) (by decide +kernel)
set_option maxRecDepth 20000 in
theorem gX5_tellsAllApart_X3_clear : GoodIn wsX5_tellsAllApart (wsV RX5 253 RX3 yX3_clear wsX3_clear) := goodIn_app (goodIn_of _ (by decide +kernel)) ggX5_tellsAllApart_X3_clear
set_option maxRecDepth 20000 in
theorem ggX5_tellsAllApart_X4_endOf : GoodIn wsX5_tellsAllApart wsX4_endOf := goodIn_r _ [16] (by decide +kernel) (by decide +kernel)
set_option maxRecDepth 20000 in
theorem gX5_tellsAllApart_X4_endOf : GoodIn wsX5_tellsAllApart (va_wsS RX5 150 yX4_endOf wsX4_endOf) := goodIn_app (goodIn_of _ (by decide +kernel)) ggX5_tellsAllApart_X4_endOf
set_option maxRecDepth 20000 in
theorem ggX5_tellsAllApart_X4_firstOf : GoodIn wsX5_tellsAllApart wsX4_firstOf := goodIn_r _ [19] (by decide +kernel) (by decide +kernel)
set_option maxRecDepth 20000 in
theorem gX5_tellsAllApart_X4_firstOf : GoodIn wsX5_tellsAllApart (va_wsS RX5 153 yX4_firstOf wsX4_firstOf) := goodIn_app (goodIn_of _ (by decide +kernel)) ggX5_tellsAllApart_X4_firstOf
set_option maxRecDepth 20000 in
theorem ggX5_tellsAllApart_X1_takeDown : GoodIn wsX5_tellsAllApart wsX1_takeDown := goodIn_r _ [24, 25, 26, 27, 28, 23, 29, 30, 31, 32, 33, 34, 35, 36, 37, 38, 39, 40, 41, 42, 43, 44, 15, 45, 46, 47, 48, 49, 50, 51, 52, 53, 54, 74, 75, 76, 77, 78, 79, 80] (by decide +kernel) (by decide +kernel)
set_option maxRecDepth 20000 in
theorem gX5_tellsAllApart_X1_takeDown : GoodIn wsX5_tellsAllApart (wsV RX5 184 RX1 yX1_takeDown wsX1_takeDown) := goodIn_app (goodIn_of _ (by decide +kernel)) ggX5_tellsAllApart_X1_takeDown
set_option maxRecDepth 20000 in
theorem ggX5_tellsAllApart_X1_pagesOf : GoodIn wsX5_tellsAllApart wsX1_pagesOf := goodIn_r _ [58, 25, 31, 74, 75, 76, 77, 78, 79, 80] (by decide +kernel) (by decide +kernel)
set_option maxRecDepth 20000 in
theorem gX5_tellsAllApart_X1_pagesOf : GoodIn wsX5_tellsAllApart (wsV RX5 270 RX1 yX1_pagesOf wsX1_pagesOf) := goodIn_app (goodIn_of _ (by decide +kernel)) ggX5_tellsAllApart_X1_pagesOf
set_option maxRecDepth 20000 in
theorem ggX5_tellsAllApart_X3_putNew : GoodIn wsX5_tellsAllApart wsX3_putNew := goodIn_r _ [62, 63, 8, 73] (by decide +kernel) (by decide +kernel)
set_option maxRecDepth 20000 in
theorem gX5_tellsAllApart_X3_putNew : GoodIn wsX5_tellsAllApart (wsV RX5 274 RX3 yX3_putNew wsX3_putNew) := goodIn_app (goodIn_of _ (by decide +kernel)) ggX5_tellsAllApart_X3_putNew
theorem dX5_tellsAllApart_0 : decode cX5_tellsAllApart 0 = .ok (.aload_n 0, 1) := by decide +kernel
theorem dX5_tellsAllApart_1 : decode cX5_tellsAllApart 1 = .ok (.getfield 33, 3) := by decide +kernel
theorem dX5_tellsAllApart_4 : decode cX5_tellsAllApart 4 = .ok (.invokevirtual 253, 3) := by decide +kernel
theorem dX5_tellsAllApart_7 : decode cX5_tellsAllApart 7 = .ok (.iload_n 2, 1) := by decide +kernel
theorem dX5_tellsAllApart_8 : decode cX5_tellsAllApart 8 = .ok (.invokestatic 150, 3) := by decide +kernel
theorem dX5_tellsAllApart_11 : decode cX5_tellsAllApart 11 = .ok (.istore_n 3, 1) := by decide +kernel
theorem dX5_tellsAllApart_12 : decode cX5_tellsAllApart 12 = .ok (.iload_n 2, 1) := by decide +kernel
theorem dX5_tellsAllApart_13 : decode cX5_tellsAllApart 13 = .ok (.invokestatic 153, 3) := by decide +kernel
theorem dX5_tellsAllApart_16 : decode cX5_tellsAllApart 16 = .ok (.istore 4, 2) := by decide +kernel
theorem dX5_tellsAllApart_18 : decode cX5_tellsAllApart 18 = .ok (.iload 4, 2) := by decide +kernel
theorem dX5_tellsAllApart_20 : decode cX5_tellsAllApart 20 = .ok (.iload_n 3, 1) := by decide +kernel
theorem dX5_tellsAllApart_21 : decode cX5_tellsAllApart 21 = .ok (.if_icmp .ge 38, 3) := by decide +kernel
theorem dX5_tellsAllApart_24 : decode cX5_tellsAllApart 24 = .ok (.aload_n 0, 1) := by decide +kernel
theorem dX5_tellsAllApart_25 : decode cX5_tellsAllApart 25 = .ok (.getfield 19, 3) := by decide +kernel
theorem dX5_tellsAllApart_28 : decode cX5_tellsAllApart 28 = .ok (.iload 4, 2) := by decide +kernel
theorem dX5_tellsAllApart_30 : decode cX5_tellsAllApart 30 = .ok (.invokevirtual 184, 3) := by decide +kernel
theorem dX5_tellsAllApart_33 : decode cX5_tellsAllApart 33 = .ok (.aload_n 0, 1) := by decide +kernel
theorem dX5_tellsAllApart_34 : decode cX5_tellsAllApart 34 = .ok (.getfield 33, 3) := by decide +kernel
theorem dX5_tellsAllApart_37 : decode cX5_tellsAllApart 37 = .ok (.aload_n 0, 1) := by decide +kernel
theorem dX5_tellsAllApart_38 : decode cX5_tellsAllApart 38 = .ok (.getfield 19, 3) := by decide +kernel
theorem dX5_tellsAllApart_41 : decode cX5_tellsAllApart 41 = .ok (.iload_n 1, 1) := by decide +kernel
theorem dX5_tellsAllApart_42 : decode cX5_tellsAllApart 42 = .ok (.invokevirtual 270, 3) := by decide +kernel
theorem dX5_tellsAllApart_45 : decode cX5_tellsAllApart 45 = .ok (.invokevirtual 274, 3) := by decide +kernel
theorem dX5_tellsAllApart_48 : decode cX5_tellsAllApart 48 = .ok (.ifCond .ne 5, 3) := by decide +kernel
theorem dX5_tellsAllApart_51 : decode cX5_tellsAllApart 51 = .ok (.iconst 0, 1) := by decide +kernel
theorem dX5_tellsAllApart_52 : decode cX5_tellsAllApart 52 = .ok (.ireturn, 1) := by decide +kernel
theorem dX5_tellsAllApart_53 : decode cX5_tellsAllApart 53 = .ok (.iinc 4 1, 3) := by decide +kernel
theorem dX5_tellsAllApart_56 : decode cX5_tellsAllApart 56 = .ok (.goto (-38), 3) := by decide +kernel
theorem dX5_tellsAllApart_59 : decode cX5_tellsAllApart 59 = .ok (.iconst 1, 1) := by decide +kernel
theorem dX5_tellsAllApart_60 : decode cX5_tellsAllApart 60 = .ok (.ireturn, 1) := by decide +kernel
set_option maxRecDepth 20000 in
theorem ggX5_blindness_X3_clear : GoodIn wsX5_blindness wsX3_clear := goodIn_r _ [7, 8, 9, 10, 11, 12, 77] (by decide +kernel) (by decide +kernel)
set_option maxRecDepth 20000 in
theorem gX5_blindness_X3_clear : GoodIn wsX5_blindness (wsV RX5 253 RX3 yX3_clear wsX3_clear) := goodIn_app (goodIn_of _ (by decide +kernel)) ggX5_blindness_X3_clear
set_option maxRecDepth 20000 in
theorem ggX5_blindness_X1_everybody : GoodIn wsX5_blindness wsX1_everybody := goodIn_r _ [17, 18, 78, 79, 80, 81, 82, 83, 84] (by decide +kernel) (by decide +kernel)
set_option maxRecDepth 20000 in
theorem gX5_blindness_X1_everybody : GoodIn wsX5_blindness (wsV RX5 200 RX1 yX1_everybody wsX1_everybody) := goodIn_app (goodIn_of _ (by decide +kernel)) ggX5_blindness_X1_everybody
set_option maxRecDepth 20000 in
theorem ggX5_blindness_X4_endOf : GoodIn wsX5_blindness wsX4_endOf := goodIn_r _ [22] (by decide +kernel) (by decide +kernel)
set_option maxRecDepth 20000 in
theorem gX5_blindness_X4_endOf : GoodIn wsX5_blindness (va_wsS RX5 150 yX4_endOf wsX4_endOf) := goodIn_app (goodIn_of _ (by decide +kernel)) ggX5_blindness_X4_endOf
set_option maxRecDepth 20000 in
theorem ggX5_blindness_X4_firstOf : GoodIn wsX5_blindness wsX4_firstOf := goodIn_r _ [25] (by decide +kernel) (by decide +kernel)
set_option maxRecDepth 20000 in
theorem gX5_blindness_X4_firstOf : GoodIn wsX5_blindness (va_wsS RX5 153 yX4_firstOf wsX4_firstOf) := goodIn_app (goodIn_of _ (by decide +kernel)) ggX5_blindness_X4_firstOf
set_option maxRecDepth 20000 in
theorem ggX5_blindness_X1_takeDown : GoodIn wsX5_blindness wsX1_takeDown := goodIn_r _ [29, 18, 30, 31, 32, 16, 33, 34, 35, 36, 37, 38, 39, 40, 41, 42, 43, 44, 45, 46, 47, 48, 21, 49, 50, 51, 52, 53, 54, 55, 56, 57, 58, 78, 79, 80, 81, 82, 83, 84] (by decide +kernel) (by decide +kernel)
set_option maxRecDepth 20000 in
theorem gX5_blindness_X1_takeDown : GoodIn wsX5_blindness (wsV RX5 184 RX1 yX1_takeDown wsX1_takeDown) := goodIn_app (goodIn_of _ (by decide +kernel)) ggX5_blindness_X1_takeDown
set_option maxRecDepth 20000 in
theorem ggX5_blindness_X1_pagesOf : GoodIn wsX5_blindness wsX1_pagesOf := goodIn_r _ [62, 18, 35, 78, 79, 80, 81, 82, 83, 84] (by decide +kernel) (by decide +kernel)
set_option maxRecDepth 20000 in
theorem gX5_blindness_X1_pagesOf : GoodIn wsX5_blindness (wsV RX5 270 RX1 yX1_pagesOf wsX1_pagesOf) := goodIn_app (goodIn_of _ (by decide +kernel)) ggX5_blindness_X1_pagesOf
set_option maxRecDepth 20000 in
theorem ggX5_blindness_X3_putNew : GoodIn wsX5_blindness wsX3_putNew := goodIn_r _ [66, 67, 8, 77] (by decide +kernel) (by decide +kernel)
set_option maxRecDepth 20000 in
theorem gX5_blindness_X3_putNew : GoodIn wsX5_blindness (wsV RX5 274 RX3 yX3_putNew wsX3_putNew) := goodIn_app (goodIn_of _ (by decide +kernel)) ggX5_blindness_X3_putNew
theorem dX5_blindness_0 : decode cX5_blindness 0 = .ok (.aload_n 0, 1) := by decide +kernel
theorem dX5_blindness_1 : decode cX5_blindness 1 = .ok (.getfield 33, 3) := by decide +kernel
theorem dX5_blindness_4 : decode cX5_blindness 4 = .ok (.invokevirtual 253, 3) := by decide +kernel
theorem dX5_blindness_7 : decode cX5_blindness 7 = .ok (.aload_n 0, 1) := by decide +kernel
theorem dX5_blindness_8 : decode cX5_blindness 8 = .ok (.getfield 19, 3) := by decide +kernel
theorem dX5_blindness_11 : decode cX5_blindness 11 = .ok (.invokevirtual 200, 3) := by decide +kernel
theorem dX5_blindness_14 : decode cX5_blindness 14 = .ok (.istore_n 2, 1) := by decide +kernel
theorem dX5_blindness_15 : decode cX5_blindness 15 = .ok (.iconst 0, 1) := by decide +kernel
theorem dX5_blindness_16 : decode cX5_blindness 16 = .ok (.istore_n 3, 1) := by decide +kernel
theorem dX5_blindness_17 : decode cX5_blindness 17 = .ok (.iload_n 1, 1) := by decide +kernel
theorem dX5_blindness_18 : decode cX5_blindness 18 = .ok (.invokestatic 150, 3) := by decide +kernel
theorem dX5_blindness_21 : decode cX5_blindness 21 = .ok (.istore 4, 2) := by decide +kernel
theorem dX5_blindness_23 : decode cX5_blindness 23 = .ok (.iload_n 1, 1) := by decide +kernel
theorem dX5_blindness_24 : decode cX5_blindness 24 = .ok (.invokestatic 153, 3) := by decide +kernel
theorem dX5_blindness_27 : decode cX5_blindness 27 = .ok (.istore 5, 2) := by decide +kernel
theorem dX5_blindness_29 : decode cX5_blindness 29 = .ok (.iload 5, 2) := by decide +kernel
theorem dX5_blindness_31 : decode cX5_blindness 31 = .ok (.iload 4, 2) := by decide +kernel
theorem dX5_blindness_33 : decode cX5_blindness 33 = .ok (.if_icmp .ge 39, 3) := by decide +kernel
theorem dX5_blindness_36 : decode cX5_blindness 36 = .ok (.aload_n 0, 1) := by decide +kernel
theorem dX5_blindness_37 : decode cX5_blindness 37 = .ok (.getfield 19, 3) := by decide +kernel
theorem dX5_blindness_40 : decode cX5_blindness 40 = .ok (.iload 5, 2) := by decide +kernel
theorem dX5_blindness_42 : decode cX5_blindness 42 = .ok (.invokevirtual 184, 3) := by decide +kernel
theorem dX5_blindness_45 : decode cX5_blindness 45 = .ok (.aload_n 0, 1) := by decide +kernel
theorem dX5_blindness_46 : decode cX5_blindness 46 = .ok (.getfield 33, 3) := by decide +kernel
theorem dX5_blindness_49 : decode cX5_blindness 49 = .ok (.aload_n 0, 1) := by decide +kernel
theorem dX5_blindness_50 : decode cX5_blindness 50 = .ok (.getfield 19, 3) := by decide +kernel
theorem dX5_blindness_53 : decode cX5_blindness 53 = .ok (.iload_n 2, 1) := by decide +kernel
theorem dX5_blindness_54 : decode cX5_blindness 54 = .ok (.invokevirtual 270, 3) := by decide +kernel
theorem dX5_blindness_57 : decode cX5_blindness 57 = .ok (.invokevirtual 274, 3) := by decide +kernel
theorem dX5_blindness_60 : decode cX5_blindness 60 = .ok (.ifCond .ne 6, 3) := by decide +kernel
theorem dX5_blindness_63 : decode cX5_blindness 63 = .ok (.iinc 3 1, 3) := by decide +kernel
theorem dX5_blindness_66 : decode cX5_blindness 66 = .ok (.iinc 5 1, 3) := by decide +kernel
theorem dX5_blindness_69 : decode cX5_blindness 69 = .ok (.goto (-40), 3) := by decide +kernel
theorem dX5_blindness_72 : decode cX5_blindness 72 = .ok (.iload_n 3, 1) := by decide +kernel
theorem dX5_blindness_73 : decode cX5_blindness 73 = .ok (.ireturn, 1) := by decide +kernel
set_option maxRecDepth 20000 in
theorem ggX5_blindnessReformed_X5_blindness : GoodIn wsX5_blindnessReformed wsX5_blindness := goodIn_r _ [7, 8, 1, 9, 10, 11, 12, 13, 14, 15, 16, 17, 18, 19, 20, 21, 22, 23, 24, 25, 26, 27, 28, 29, 30, 31, 32, 33, 34, 35, 36, 37, 38, 39, 40, 41, 42, 43, 44, 45, 46, 47, 48, 49, 50, 51, 52, 53, 54, 55, 56, 57, 58, 59, 60, 61, 62, 63, 64, 65, 66, 67, 68, 69, 70, 71, 72, 73, 74, 75, 76, 77, 78, 79, 80, 81, 82, 90, 83, 84, 85, 86, 87, 88, 89] (by decide +kernel) (by decide +kernel)
set_option maxRecDepth 20000 in
theorem gX5_blindnessReformed_X5_blindness : GoodIn wsX5_blindnessReformed (wsV RX5 211 RX5 yX5_blindness wsX5_blindness) := goodIn_app (goodIn_of _ (by decide +kernel)) ggX5_blindnessReformed_X5_blindness
theorem dX5_blindnessReformed_0 : decode cX5_blindnessReformed 0 = .ok (.aload_n 0, 1) := by decide +kernel
theorem dX5_blindnessReformed_1 : decode cX5_blindnessReformed 1 = .ok (.getfield 19, 3) := by decide +kernel
theorem dX5_blindnessReformed_4 : decode cX5_blindnessReformed 4 = .ok (.getfield 95, 3) := by decide +kernel
theorem dX5_blindnessReformed_7 : decode cX5_blindnessReformed 7 = .ok (.iload_n 2, 1) := by decide +kernel
theorem dX5_blindnessReformed_8 : decode cX5_blindnessReformed 8 = .ok (.iaload, 1) := by decide +kernel
theorem dX5_blindnessReformed_9 : decode cX5_blindnessReformed 9 = .ok (.istore_n 3, 1) := by decide +kernel
theorem dX5_blindnessReformed_10 : decode cX5_blindnessReformed 10 = .ok (.aload_n 0, 1) := by decide +kernel
theorem dX5_blindnessReformed_11 : decode cX5_blindnessReformed 11 = .ok (.getfield 19, 3) := by decide +kernel
theorem dX5_blindnessReformed_14 : decode cX5_blindnessReformed 14 = .ok (.getfield 95, 3) := by decide +kernel
theorem dX5_blindnessReformed_17 : decode cX5_blindnessReformed 17 = .ok (.iload_n 2, 1) := by decide +kernel
theorem dX5_blindnessReformed_18 : decode cX5_blindnessReformed 18 = .ok (.iconst 0, 1) := by decide +kernel
theorem dX5_blindnessReformed_19 : decode cX5_blindnessReformed 19 = .ok (.iastore, 1) := by decide +kernel
theorem dX5_blindnessReformed_20 : decode cX5_blindnessReformed 20 = .ok (.aload_n 0, 1) := by decide +kernel
theorem dX5_blindnessReformed_21 : decode cX5_blindnessReformed 21 = .ok (.iload_n 1, 1) := by decide +kernel
theorem dX5_blindnessReformed_22 : decode cX5_blindnessReformed 22 = .ok (.invokevirtual 211, 3) := by decide +kernel
theorem dX5_blindnessReformed_25 : decode cX5_blindnessReformed 25 = .ok (.istore 4, 2) := by decide +kernel
theorem dX5_blindnessReformed_27 : decode cX5_blindnessReformed 27 = .ok (.aload_n 0, 1) := by decide +kernel
theorem dX5_blindnessReformed_28 : decode cX5_blindnessReformed 28 = .ok (.getfield 19, 3) := by decide +kernel
theorem dX5_blindnessReformed_31 : decode cX5_blindnessReformed 31 = .ok (.getfield 95, 3) := by decide +kernel
theorem dX5_blindnessReformed_34 : decode cX5_blindnessReformed 34 = .ok (.iload_n 2, 1) := by decide +kernel
theorem dX5_blindnessReformed_35 : decode cX5_blindnessReformed 35 = .ok (.iload_n 3, 1) := by decide +kernel
theorem dX5_blindnessReformed_36 : decode cX5_blindnessReformed 36 = .ok (.iastore, 1) := by decide +kernel
theorem dX5_blindnessReformed_37 : decode cX5_blindnessReformed 37 = .ok (.iload 4, 2) := by decide +kernel
theorem dX5_blindnessReformed_39 : decode cX5_blindnessReformed 39 = .ok (.ireturn, 1) := by decide +kernel
set_option maxRecDepth 20000 in
theorem ggX5_setsUnlikeTrial_X1_takeDown : GoodIn wsX5_setsUnlikeTrial wsX1_takeDown := goodIn_r _ [13, 14, 15, 16, 17, 12, 18, 19, 20, 21, 22, 23, 24, 25, 26, 27, 28, 29, 30, 31, 32, 33, 34, 35, 36, 37, 38, 39, 40, 41, 42, 43, 44, 67, 68, 69, 70, 71, 72, 73] (by decide +kernel) (by decide +kernel)
set_option maxRecDepth 20000 in
theorem gX5_setsUnlikeTrial_X1_takeDown : GoodIn wsX5_setsUnlikeTrial (wsV RX5 184 RX1 yX1_takeDown wsX1_takeDown) := goodIn_app (goodIn_of _ (by decide +kernel)) ggX5_setsUnlikeTrial_X1_takeDown
set_option maxRecDepth 20000 in
theorem ggX5_setsUnlikeTrial_X4_wordsIn : GoodIn wsX5_setsUnlikeTrial wsX4_wordsIn := goodIn_r _ [35] (by decide +kernel) (by decide +kernel)
set_option maxRecDepth 20000 in
theorem gX5_setsUnlikeTrial_X4_wordsIn : GoodIn wsX5_setsUnlikeTrial (va_wsS RX5 110 yX4_wordsIn wsX4_wordsIn) := goodIn_app (goodIn_of _ (by decide +kernel)) ggX5_setsUnlikeTrial_X4_wordsIn
set_option maxRecDepth 20000 in
theorem ggX5_setsUnlikeTrial_X4_endOf : GoodIn wsX5_setsUnlikeTrial wsX4_endOf := goodIn_r _ [48] (by decide +kernel) (by decide +kernel)
set_option maxRecDepth 20000 in
theorem gX5_setsUnlikeTrial_X4_endOf : GoodIn wsX5_setsUnlikeTrial (va_wsS RX5 150 yX4_endOf wsX4_endOf) := goodIn_app (goodIn_of _ (by decide +kernel)) ggX5_setsUnlikeTrial_X4_endOf
set_option maxRecDepth 20000 in
theorem ggX5_setsUnlikeTrial_X4_firstOf : GoodIn wsX5_setsUnlikeTrial wsX4_firstOf := goodIn_r _ [51] (by decide +kernel) (by decide +kernel)
set_option maxRecDepth 20000 in
theorem gX5_setsUnlikeTrial_X4_firstOf : GoodIn wsX5_setsUnlikeTrial (va_wsS RX5 153 yX4_firstOf wsX4_firstOf) := goodIn_app (goodIn_of _ (by decide +kernel)) ggX5_setsUnlikeTrial_X4_firstOf
set_option maxRecDepth 20000 in
theorem ggX5_setsUnlikeTrial_X5_setUnlikeTrial : GoodIn wsX5_setsUnlikeTrial wsX5_setUnlikeTrial := goodIn_r _ [56, 1, 57, 3, 4, 58, 59, 60, 61, 62, 63, 64, 65, 66, 67, 68, 69, 70, 71, 72, 73] (by decide +kernel) (by decide +kernel)
set_option maxRecDepth 20000 in
theorem gX5_setsUnlikeTrial_X5_setUnlikeTrial : GoodIn wsX5_setsUnlikeTrial (wsV RX5 284 RX5 yX5_setUnlikeTrial wsX5_setUnlikeTrial) := goodIn_app (goodIn_of _ (by decide +kernel)) ggX5_setsUnlikeTrial_X5_setUnlikeTrial
theorem dX5_setsUnlikeTrial_0 : decode cX5_setsUnlikeTrial 0 = .ok (.aload_n 0, 1) := by decide +kernel
theorem dX5_setsUnlikeTrial_1 : decode cX5_setsUnlikeTrial 1 = .ok (.getfield 19, 3) := by decide +kernel
theorem dX5_setsUnlikeTrial_4 : decode cX5_setsUnlikeTrial 4 = .ok (.aload_n 0, 1) := by decide +kernel
theorem dX5_setsUnlikeTrial_5 : decode cX5_setsUnlikeTrial 5 = .ok (.getfield 50, 3) := by decide +kernel
theorem dX5_setsUnlikeTrial_8 : decode cX5_setsUnlikeTrial 8 = .ok (.invokevirtual 184, 3) := by decide +kernel
theorem dX5_setsUnlikeTrial_11 : decode cX5_setsUnlikeTrial 11 = .ok (.aload_n 0, 1) := by decide +kernel
theorem dX5_setsUnlikeTrial_12 : decode cX5_setsUnlikeTrial 12 = .ok (.getfield 19, 3) := by decide +kernel
theorem dX5_setsUnlikeTrial_15 : decode cX5_setsUnlikeTrial 15 = .ok (.getfield 193, 3) := by decide +kernel
theorem dX5_setsUnlikeTrial_18 : decode cX5_setsUnlikeTrial 18 = .ok (.iconst 0, 1) := by decide +kernel
theorem dX5_setsUnlikeTrial_19 : decode cX5_setsUnlikeTrial 19 = .ok (.aload_n 0, 1) := by decide +kernel
theorem dX5_setsUnlikeTrial_20 : decode cX5_setsUnlikeTrial 20 = .ok (.getfield 41, 3) := by decide +kernel
theorem dX5_setsUnlikeTrial_23 : decode cX5_setsUnlikeTrial 23 = .ok (.iconst 0, 1) := by decide +kernel
theorem dX5_setsUnlikeTrial_24 : decode cX5_setsUnlikeTrial 24 = .ok (.iconst 4, 1) := by decide +kernel
theorem dX5_setsUnlikeTrial_25 : decode cX5_setsUnlikeTrial 25 = .ok (.invokestatic 278, 3) := by decide +kernel
theorem dX5_setsUnlikeTrial_28 : decode cX5_setsUnlikeTrial 28 = .ok (.aload_n 0, 1) := by decide +kernel
theorem dX5_setsUnlikeTrial_29 : decode cX5_setsUnlikeTrial 29 = .ok (.getfield 50, 3) := by decide +kernel
theorem dX5_setsUnlikeTrial_32 : decode cX5_setsUnlikeTrial 32 = .ok (.invokestatic 110, 3) := by decide +kernel
theorem dX5_setsUnlikeTrial_35 : decode cX5_setsUnlikeTrial 35 = .ok (.istore_n 1, 1) := by decide +kernel
theorem dX5_setsUnlikeTrial_36 : decode cX5_setsUnlikeTrial 36 = .ok (.iconst 0, 1) := by decide +kernel
theorem dX5_setsUnlikeTrial_37 : decode cX5_setsUnlikeTrial 37 = .ok (.istore_n 2, 1) := by decide +kernel
theorem dX5_setsUnlikeTrial_38 : decode cX5_setsUnlikeTrial 38 = .ok (.iload_n 1, 1) := by decide +kernel
theorem dX5_setsUnlikeTrial_39 : decode cX5_setsUnlikeTrial 39 = .ok (.invokestatic 150, 3) := by decide +kernel
theorem dX5_setsUnlikeTrial_42 : decode cX5_setsUnlikeTrial 42 = .ok (.istore_n 3, 1) := by decide +kernel
theorem dX5_setsUnlikeTrial_43 : decode cX5_setsUnlikeTrial 43 = .ok (.iload_n 1, 1) := by decide +kernel
theorem dX5_setsUnlikeTrial_44 : decode cX5_setsUnlikeTrial 44 = .ok (.invokestatic 153, 3) := by decide +kernel
theorem dX5_setsUnlikeTrial_47 : decode cX5_setsUnlikeTrial 47 = .ok (.istore 4, 2) := by decide +kernel
theorem dX5_setsUnlikeTrial_49 : decode cX5_setsUnlikeTrial 49 = .ok (.iload 4, 2) := by decide +kernel
theorem dX5_setsUnlikeTrial_51 : decode cX5_setsUnlikeTrial 51 = .ok (.iload_n 3, 1) := by decide +kernel
theorem dX5_setsUnlikeTrial_52 : decode cX5_setsUnlikeTrial 52 = .ok (.if_icmp .ge 36, 3) := by decide +kernel
theorem dX5_setsUnlikeTrial_55 : decode cX5_setsUnlikeTrial 55 = .ok (.iload 4, 2) := by decide +kernel
theorem dX5_setsUnlikeTrial_57 : decode cX5_setsUnlikeTrial 57 = .ok (.aload_n 0, 1) := by decide +kernel
theorem dX5_setsUnlikeTrial_58 : decode cX5_setsUnlikeTrial 58 = .ok (.getfield 50, 3) := by decide +kernel
theorem dX5_setsUnlikeTrial_61 : decode cX5_setsUnlikeTrial 61 = .ok (.if_icmp .eq 21, 3) := by decide +kernel
theorem dX5_setsUnlikeTrial_64 : decode cX5_setsUnlikeTrial 64 = .ok (.aload_n 0, 1) := by decide +kernel
theorem dX5_setsUnlikeTrial_65 : decode cX5_setsUnlikeTrial 65 = .ok (.getfield 19, 3) := by decide +kernel
theorem dX5_setsUnlikeTrial_68 : decode cX5_setsUnlikeTrial 68 = .ok (.iload 4, 2) := by decide +kernel
theorem dX5_setsUnlikeTrial_70 : decode cX5_setsUnlikeTrial 70 = .ok (.invokevirtual 184, 3) := by decide +kernel
theorem dX5_setsUnlikeTrial_73 : decode cX5_setsUnlikeTrial 73 = .ok (.iload_n 2, 1) := by decide +kernel
theorem dX5_setsUnlikeTrial_74 : decode cX5_setsUnlikeTrial 74 = .ok (.iconst 1, 1) := by decide +kernel
theorem dX5_setsUnlikeTrial_75 : decode cX5_setsUnlikeTrial 75 = .ok (.aload_n 0, 1) := by decide +kernel
theorem dX5_setsUnlikeTrial_76 : decode cX5_setsUnlikeTrial 76 = .ok (.invokevirtual 284, 3) := by decide +kernel
theorem dX5_setsUnlikeTrial_79 : decode cX5_setsUnlikeTrial 79 = .ok (.ishl, 1) := by decide +kernel
theorem dX5_setsUnlikeTrial_80 : decode cX5_setsUnlikeTrial 80 = .ok (.ior, 1) := by decide +kernel
theorem dX5_setsUnlikeTrial_81 : decode cX5_setsUnlikeTrial 81 = .ok (.istore_n 2, 1) := by decide +kernel
theorem dX5_setsUnlikeTrial_82 : decode cX5_setsUnlikeTrial 82 = .ok (.iinc 4 1, 3) := by decide +kernel
theorem dX5_setsUnlikeTrial_85 : decode cX5_setsUnlikeTrial 85 = .ok (.goto (-36), 3) := by decide +kernel
theorem dX5_setsUnlikeTrial_88 : decode cX5_setsUnlikeTrial 88 = .ok (.iload_n 2, 1) := by decide +kernel
theorem dX5_setsUnlikeTrial_89 : decode cX5_setsUnlikeTrial 89 = .ok (.ireturn, 1) := by decide +kernel
theorem dX5_setUnlikeTrial_0 : decode cX5_setUnlikeTrial 0 = .ok (.iconst 0, 1) := by decide +kernel
theorem dX5_setUnlikeTrial_1 : decode cX5_setUnlikeTrial 1 = .ok (.istore_n 1, 1) := by decide +kernel
theorem dX5_setUnlikeTrial_2 : decode cX5_setUnlikeTrial 2 = .ok (.iconst 0, 1) := by decide +kernel
theorem dX5_setUnlikeTrial_3 : decode cX5_setUnlikeTrial 3 = .ok (.istore_n 2, 1) := by decide +kernel
theorem dX5_setUnlikeTrial_4 : decode cX5_setUnlikeTrial 4 = .ok (.iload_n 2, 1) := by decide +kernel
theorem dX5_setUnlikeTrial_5 : decode cX5_setUnlikeTrial 5 = .ok (.aload_n 0, 1) := by decide +kernel
theorem dX5_setUnlikeTrial_6 : decode cX5_setUnlikeTrial 6 = .ok (.getfield 19, 3) := by decide +kernel
theorem dX5_setUnlikeTrial_9 : decode cX5_setUnlikeTrial 9 = .ok (.getfield 83, 3) := by decide +kernel
theorem dX5_setUnlikeTrial_12 : decode cX5_setUnlikeTrial 12 = .ok (.if_icmp .ge 33, 3) := by decide +kernel
theorem dX5_setUnlikeTrial_15 : decode cX5_setUnlikeTrial 15 = .ok (.aload_n 0, 1) := by decide +kernel
theorem dX5_setUnlikeTrial_16 : decode cX5_setUnlikeTrial 16 = .ok (.getfield 19, 3) := by decide +kernel
theorem dX5_setUnlikeTrial_19 : decode cX5_setUnlikeTrial 19 = .ok (.getfield 193, 3) := by decide +kernel
theorem dX5_setUnlikeTrial_22 : decode cX5_setUnlikeTrial 22 = .ok (.iload_n 2, 1) := by decide +kernel
theorem dX5_setUnlikeTrial_23 : decode cX5_setUnlikeTrial 23 = .ok (.iaload, 1) := by decide +kernel
theorem dX5_setUnlikeTrial_24 : decode cX5_setUnlikeTrial 24 = .ok (.aload_n 0, 1) := by decide +kernel
theorem dX5_setUnlikeTrial_25 : decode cX5_setUnlikeTrial 25 = .ok (.getfield 41, 3) := by decide +kernel
theorem dX5_setUnlikeTrial_28 : decode cX5_setUnlikeTrial 28 = .ok (.iload_n 2, 1) := by decide +kernel
theorem dX5_setUnlikeTrial_29 : decode cX5_setUnlikeTrial 29 = .ok (.iaload, 1) := by decide +kernel
theorem dX5_setUnlikeTrial_30 : decode cX5_setUnlikeTrial 30 = .ok (.if_icmp .eq 9, 3) := by decide +kernel
theorem dX5_setUnlikeTrial_33 : decode cX5_setUnlikeTrial 33 = .ok (.iload_n 1, 1) := by decide +kernel
theorem dX5_setUnlikeTrial_34 : decode cX5_setUnlikeTrial 34 = .ok (.iconst 1, 1) := by decide +kernel
theorem dX5_setUnlikeTrial_35 : decode cX5_setUnlikeTrial 35 = .ok (.iload_n 2, 1) := by decide +kernel
theorem dX5_setUnlikeTrial_36 : decode cX5_setUnlikeTrial 36 = .ok (.ishl, 1) := by decide +kernel
theorem dX5_setUnlikeTrial_37 : decode cX5_setUnlikeTrial 37 = .ok (.ior, 1) := by decide +kernel
theorem dX5_setUnlikeTrial_38 : decode cX5_setUnlikeTrial 38 = .ok (.istore_n 1, 1) := by decide +kernel
theorem dX5_setUnlikeTrial_39 : decode cX5_setUnlikeTrial 39 = .ok (.iinc 2 1, 3) := by decide +kernel
theorem dX5_setUnlikeTrial_42 : decode cX5_setUnlikeTrial 42 = .ok (.goto (-38), 3) := by decide +kernel
theorem dX5_setUnlikeTrial_45 : decode cX5_setUnlikeTrial 45 = .ok (.iload_n 1, 1) := by decide +kernel
theorem dX5_setUnlikeTrial_46 : decode cX5_setUnlikeTrial 46 = .ok (.ireturn, 1) := by decide +kernel
set_option maxRecDepth 20000 in
theorem ggX5_tellsTrial_X1_everybody : GoodIn wsX5_tellsTrial wsX1_everybody := goodIn_r _ [6, 7, 17, 18, 19, 20, 21, 22, 23] (by decide +kernel) (by decide +kernel)
set_option maxRecDepth 20000 in
theorem gX5_tellsTrial_X1_everybody : GoodIn wsX5_tellsTrial (wsV RX5 200 RX1 yX1_everybody wsX1_everybody) := goodIn_app (goodIn_of _ (by decide +kernel)) ggX5_tellsTrial_X1_everybody
theorem dX5_tellsTrial_0 : decode cX5_tellsTrial 0 = .ok (.aload_n 0, 1) := by decide +kernel
theorem dX5_tellsTrial_1 : decode cX5_tellsTrial 1 = .ok (.getfield 19, 3) := by decide +kernel
theorem dX5_tellsTrial_4 : decode cX5_tellsTrial 4 = .ok (.invokevirtual 200, 3) := by decide +kernel
theorem dX5_tellsTrial_7 : decode cX5_tellsTrial 7 = .ok (.istore_n 3, 1) := by decide +kernel
theorem dX5_tellsTrial_8 : decode cX5_tellsTrial 8 = .ok (.iconst 0, 1) := by decide +kernel
theorem dX5_tellsTrial_9 : decode cX5_tellsTrial 9 = .ok (.istore 4, 2) := by decide +kernel
theorem dX5_tellsTrial_11 : decode cX5_tellsTrial 11 = .ok (.iload 4, 2) := by decide +kernel
theorem dX5_tellsTrial_13 : decode cX5_tellsTrial 13 = .ok (.iload_n 3, 1) := by decide +kernel
theorem dX5_tellsTrial_14 : decode cX5_tellsTrial 14 = .ok (.if_icmp .gt 27, 3) := by decide +kernel
theorem dX5_tellsTrial_17 : decode cX5_tellsTrial 17 = .ok (.iload_n 2, 1) := by decide +kernel
theorem dX5_tellsTrial_18 : decode cX5_tellsTrial 18 = .ok (.iload 4, 2) := by decide +kernel
theorem dX5_tellsTrial_20 : decode cX5_tellsTrial 20 = .ok (.ishr, 1) := by decide +kernel
theorem dX5_tellsTrial_21 : decode cX5_tellsTrial 21 = .ok (.iconst 1, 1) := by decide +kernel
theorem dX5_tellsTrial_22 : decode cX5_tellsTrial 22 = .ok (.iand, 1) := by decide +kernel
theorem dX5_tellsTrial_23 : decode cX5_tellsTrial 23 = .ok (.ifCond .eq 12, 3) := by decide +kernel
theorem dX5_tellsTrial_26 : decode cX5_tellsTrial 26 = .ok (.iload 4, 2) := by decide +kernel
theorem dX5_tellsTrial_28 : decode cX5_tellsTrial 28 = .ok (.iload_n 1, 1) := by decide +kernel
theorem dX5_tellsTrial_29 : decode cX5_tellsTrial 29 = .ok (.iand, 1) := by decide +kernel
theorem dX5_tellsTrial_30 : decode cX5_tellsTrial 30 = .ok (.ifCond .ne 5, 3) := by decide +kernel
theorem dX5_tellsTrial_33 : decode cX5_tellsTrial 33 = .ok (.iconst 0, 1) := by decide +kernel
theorem dX5_tellsTrial_34 : decode cX5_tellsTrial 34 = .ok (.ireturn, 1) := by decide +kernel
theorem dX5_tellsTrial_35 : decode cX5_tellsTrial 35 = .ok (.iinc 4 1, 3) := by decide +kernel
theorem dX5_tellsTrial_38 : decode cX5_tellsTrial 38 = .ok (.goto (-27), 3) := by decide +kernel
theorem dX5_tellsTrial_41 : decode cX5_tellsTrial 41 = .ok (.iconst 1, 1) := by decide +kernel
theorem dX5_tellsTrial_42 : decode cX5_tellsTrial 42 = .ok (.ireturn, 1) := by decide +kernel
set_option maxRecDepth 20000 in
theorem ggX5_trialBySeed_X4_with : GoodIn wsX5_trialBySeed wsX4_with := goodIn_r _ [7] (by decide +kernel) (by decide +kernel)
set_option maxRecDepth 20000 in
theorem gX5_trialBySeed_X4_with : GoodIn wsX5_trialBySeed (va_wsS RX5 131 yX4_with wsX4_with) := goodIn_app (goodIn_of _ (by decide +kernel)) ggX5_trialBySeed_X4_with
theorem dX5_trialBySeed_0 : decode cX5_trialBySeed 0 = .ok (.iconst 1, 1) := by decide +kernel
theorem dX5_trialBySeed_1 : decode cX5_trialBySeed 1 = .ok (.istore_n 2, 1) := by decide +kernel
theorem dX5_trialBySeed_2 : decode cX5_trialBySeed 2 = .ok (.iconst 0, 1) := by decide +kernel
theorem dX5_trialBySeed_3 : decode cX5_trialBySeed 3 = .ok (.istore_n 3, 1) := by decide +kernel
theorem dX5_trialBySeed_4 : decode cX5_trialBySeed 4 = .ok (.iload_n 3, 1) := by decide +kernel
theorem dX5_trialBySeed_5 : decode cX5_trialBySeed 5 = .ok (.iload_n 1, 1) := by decide +kernel
theorem dX5_trialBySeed_6 : decode cX5_trialBySeed 6 = .ok (.if_icmp .ge 40, 3) := by decide +kernel
theorem dX5_trialBySeed_9 : decode cX5_trialBySeed 9 = .ok (.aload_n 0, 1) := by decide +kernel
theorem dX5_trialBySeed_10 : decode cX5_trialBySeed 10 = .ok (.aload_n 0, 1) := by decide +kernel
theorem dX5_trialBySeed_11 : decode cX5_trialBySeed 11 = .ok (.getfield 54, 3) := by decide +kernel
theorem dX5_trialBySeed_14 : decode cX5_trialBySeed 14 = .ok (.ldc2_w 287, 3) := by decide +kernel
theorem dX5_trialBySeed_17 : decode cX5_trialBySeed 17 = .ok (.lmul, 1) := by decide +kernel
theorem dX5_trialBySeed_18 : decode cX5_trialBySeed 18 = .ok (.ldc2_w 289, 3) := by decide +kernel
theorem dX5_trialBySeed_21 : decode cX5_trialBySeed 21 = .ok (.ladd, 1) := by decide +kernel
theorem dX5_trialBySeed_22 : decode cX5_trialBySeed 22 = .ok (.putfield 54, 3) := by decide +kernel
theorem dX5_trialBySeed_25 : decode cX5_trialBySeed 25 = .ok (.iload_n 2, 1) := by decide +kernel
theorem dX5_trialBySeed_26 : decode cX5_trialBySeed 26 = .ok (.aload_n 0, 1) := by decide +kernel
theorem dX5_trialBySeed_27 : decode cX5_trialBySeed 27 = .ok (.getfield 54, 3) := by decide +kernel
theorem dX5_trialBySeed_30 : decode cX5_trialBySeed 30 = .ok (.bipush 33, 2) := by decide +kernel
theorem dX5_trialBySeed_32 : decode cX5_trialBySeed 32 = .ok (.lushr, 1) := by decide +kernel
theorem dX5_trialBySeed_33 : decode cX5_trialBySeed 33 = .ok (.l2i, 1) := by decide +kernel
theorem dX5_trialBySeed_34 : decode cX5_trialBySeed 34 = .ok (.iconst 4, 1) := by decide +kernel
theorem dX5_trialBySeed_35 : decode cX5_trialBySeed 35 = .ok (.irem, 1) := by decide +kernel
theorem dX5_trialBySeed_36 : decode cX5_trialBySeed 36 = .ok (.invokestatic 131, 3) := by decide +kernel
theorem dX5_trialBySeed_39 : decode cX5_trialBySeed 39 = .ok (.istore_n 2, 1) := by decide +kernel
theorem dX5_trialBySeed_40 : decode cX5_trialBySeed 40 = .ok (.iinc 3 1, 3) := by decide +kernel
theorem dX5_trialBySeed_43 : decode cX5_trialBySeed 43 = .ok (.goto (-39), 3) := by decide +kernel
theorem dX5_trialBySeed_46 : decode cX5_trialBySeed 46 = .ok (.iload_n 2, 1) := by decide +kernel
theorem dX5_trialBySeed_47 : decode cX5_trialBySeed 47 = .ok (.ireturn, 1) := by decide +kernel
theorem dX6_init_0 : decode cX6_init 0 = .ok (.aload_n 0, 1) := by decide +kernel
theorem dX6_init_1 : decode cX6_init 1 = .ok (.invokespecial 1, 3) := by decide +kernel
theorem dX6_init_4 : decode cX6_init 4 = .ok (.aload_n 0, 1) := by decide +kernel
theorem dX6_init_5 : decode cX6_init 5 = .ok (.iconst 4, 1) := by decide +kernel
theorem dX6_init_6 : decode cX6_init 6 = .ok (.newarray .int, 2) := by decide +kernel
theorem dX6_init_8 : decode cX6_init 8 = .ok (.putfield 7, 3) := by decide +kernel
theorem dX6_init_11 : decode cX6_init 11 = .ok (.aload_n 0, 1) := by decide +kernel
theorem dX6_init_12 : decode cX6_init 12 = .ok (.iconst 4, 1) := by decide +kernel
theorem dX6_init_13 : decode cX6_init 13 = .ok (.newarray .int, 2) := by decide +kernel
theorem dX6_init_15 : decode cX6_init 15 = .ok (.putfield 13, 3) := by decide +kernel
theorem dX6_init_18 : decode cX6_init 18 = .ok (.aload_n 0, 1) := by decide +kernel
theorem dX6_init_19 : decode cX6_init 19 = .ok (.bipush 13, 2) := by decide +kernel
theorem dX6_init_21 : decode cX6_init 21 = .ok (.newarray .int, 2) := by decide +kernel
theorem dX6_init_23 : decode cX6_init 23 = .ok (.putfield 16, 3) := by decide +kernel
theorem dX6_init_26 : decode cX6_init 26 = .ok (.aload_n 0, 1) := by decide +kernel
theorem dX6_init_27 : decode cX6_init 27 = .ok (.iconst 4, 1) := by decide +kernel
theorem dX6_init_28 : decode cX6_init 28 = .ok (.newarray .int, 2) := by decide +kernel
theorem dX6_init_30 : decode cX6_init 30 = .ok (.putfield 19, 3) := by decide +kernel
theorem dX6_init_33 : decode cX6_init 33 = .ok (.aload_n 0, 1) := by decide +kernel
theorem dX6_init_34 : decode cX6_init 34 = .ok (.bipush 32, 2) := by decide +kernel
theorem dX6_init_36 : decode cX6_init 36 = .ok (.newarray .int, 2) := by decide +kernel
theorem dX6_init_38 : decode cX6_init 38 = .ok (.putfield 22, 3) := by decide +kernel
theorem dX6_init_41 : decode cX6_init 41 = .ok (.aload_n 0, 1) := by decide +kernel
theorem dX6_init_42 : decode cX6_init 42 = .ok (.iconst 4, 1) := by decide +kernel
theorem dX6_init_43 : decode cX6_init 43 = .ok (.newarray .int, 2) := by decide +kernel
theorem dX6_init_45 : decode cX6_init 45 = .ok (.putfield 25, 3) := by decide +kernel
theorem dX6_init_48 : decode cX6_init 48 = .ok (.aload_n 0, 1) := by decide +kernel
theorem dX6_init_49 : decode cX6_init 49 = .ok (.sipush 208, 3) := by decide +kernel
theorem dX6_init_52 : decode cX6_init 52 = .ok (.newarray .int, 2) := by decide +kernel
theorem dX6_init_54 : decode cX6_init 54 = .ok (.putfield 28, 3) := by decide +kernel
theorem dX6_init_57 : decode cX6_init 57 = .ok (.aload_n 0, 1) := by decide +kernel
theorem dX6_init_58 : decode cX6_init 58 = .ok (.sipush 28672, 3) := by decide +kernel
theorem dX6_init_61 : decode cX6_init 61 = .ok (.newarray .int, 2) := by decide +kernel
theorem dX6_init_63 : decode cX6_init 63 = .ok (.putfield 31, 3) := by decide +kernel
theorem dX6_init_66 : decode cX6_init 66 = .ok (.aload_n 0, 1) := by decide +kernel
theorem dX6_init_67 : decode cX6_init 67 = .ok (.sipush 8192, 3) := by decide +kernel
theorem dX6_init_70 : decode cX6_init 70 = .ok (.newarray .int, 2) := by decide +kernel
theorem dX6_init_72 : decode cX6_init 72 = .ok (.putfield 34, 3) := by decide +kernel
theorem dX6_init_75 : decode cX6_init 75 = .ok (.aload_n 0, 1) := by decide +kernel
theorem dX6_init_76 : decode cX6_init 76 = .ok (.sipush 4096, 3) := by decide +kernel
theorem dX6_init_79 : decode cX6_init 79 = .ok (.newarray .int, 2) := by decide +kernel
theorem dX6_init_81 : decode cX6_init 81 = .ok (.putfield 37, 3) := by decide +kernel
theorem dX6_init_84 : decode cX6_init 84 = .ok (.aload_n 0, 1) := by decide +kernel
theorem dX6_init_85 : decode cX6_init 85 = .ok (.iconst 4, 1) := by decide +kernel
theorem dX6_init_86 : decode cX6_init 86 = .ok (.newarray .int, 2) := by decide +kernel
theorem dX6_init_88 : decode cX6_init 88 = .ok (.putfield 40, 3) := by decide +kernel
theorem dX6_init_91 : decode cX6_init 91 = .ok (.aload_n 0, 1) := by decide +kernel
theorem dX6_init_92 : decode cX6_init 92 = .ok (.iconst 2, 1) := by decide +kernel
theorem dX6_init_93 : decode cX6_init 93 = .ok (.newarray .boolean, 2) := by decide +kernel
theorem dX6_init_95 : decode cX6_init 95 = .ok (.putfield 43, 3) := by decide +kernel
theorem dX6_init_98 : decode cX6_init 98 = .ok (.aload_n 0, 1) := by decide +kernel
theorem dX6_init_99 : decode cX6_init 99 = .ok (.bipush 26, 2) := by decide +kernel
theorem dX6_init_101 : decode cX6_init 101 = .ok (.newarray .int, 2) := by decide +kernel
theorem dX6_init_103 : decode cX6_init 103 = .ok (.putfield 47, 3) := by decide +kernel
theorem dX6_init_106 : decode cX6_init 106 = .ok (.iconst 0, 1) := by decide +kernel
theorem dX6_init_107 : decode cX6_init 107 = .ok (.istore_n 1, 1) := by decide +kernel
theorem dX6_init_108 : decode cX6_init 108 = .ok (.iload_n 1, 1) := by decide +kernel
theorem dX6_init_109 : decode cX6_init 109 = .ok (.iconst 4, 1) := by decide +kernel
theorem dX6_init_110 : decode cX6_init 110 = .ok (.if_icmp .ge 17, 3) := by decide +kernel
theorem dX6_init_113 : decode cX6_init 113 = .ok (.aload_n 0, 1) := by decide +kernel
theorem dX6_init_114 : decode cX6_init 114 = .ok (.getfield 19, 3) := by decide +kernel
theorem dX6_init_117 : decode cX6_init 117 = .ok (.iload_n 1, 1) := by decide +kernel
theorem dX6_init_118 : decode cX6_init 118 = .ok (.bipush (-9), 2) := by decide +kernel
theorem dX6_init_120 : decode cX6_init 120 = .ok (.iastore, 1) := by decide +kernel
theorem dX6_init_121 : decode cX6_init 121 = .ok (.iinc 1 1, 3) := by decide +kernel
theorem dX6_init_124 : decode cX6_init 124 = .ok (.goto (-16), 3) := by decide +kernel
theorem dX6_init_127 : decode cX6_init 127 = .ok (.return_, 1) := by decide +kernel
theorem dX6_in_0 : decode cX6_in 0 = .ok (.lload_n 0, 1) := by decide +kernel
theorem dX6_in_1 : decode cX6_in 1 = .ok (.lload_n 2, 1) := by decide +kernel
theorem dX6_in_2 : decode cX6_in 2 = .ok (.lcmp, 1) := by decide +kernel
theorem dX6_in_3 : decode cX6_in 3 = .ok (.ifCond .lt 14, 3) := by decide +kernel
theorem dX6_in_6 : decode cX6_in 6 = .ok (.lload_n 0, 1) := by decide +kernel
theorem dX6_in_7 : decode cX6_in 7 = .ok (.lload 4, 2) := by decide +kernel
theorem dX6_in_9 : decode cX6_in 9 = .ok (.lcmp, 1) := by decide +kernel
theorem dX6_in_10 : decode cX6_in 10 = .ok (.ifCond .gt 7, 3) := by decide +kernel
theorem dX6_in_13 : decode cX6_in 13 = .ok (.iconst 1, 1) := by decide +kernel
theorem dX6_in_14 : decode cX6_in 14 = .ok (.goto 4, 3) := by decide +kernel
theorem dX6_in_17 : decode cX6_in 17 = .ok (.iconst 0, 1) := by decide +kernel
theorem dX6_in_18 : decode cX6_in 18 = .ok (.ireturn, 1) := by decide +kernel
theorem dX6_has_0 : decode cX6_has 0 = .ok (.iload_n 0, 1) := by decide +kernel
theorem dX6_has_1 : decode cX6_has 1 = .ok (.iload_n 1, 1) := by decide +kernel
theorem dX6_has_2 : decode cX6_has 2 = .ok (.ishr, 1) := by decide +kernel
theorem dX6_has_3 : decode cX6_has 3 = .ok (.iconst 1, 1) := by decide +kernel
theorem dX6_has_4 : decode cX6_has 4 = .ok (.iand, 1) := by decide +kernel
theorem dX6_has_5 : decode cX6_has 5 = .ok (.iconst 1, 1) := by decide +kernel
theorem dX6_has_6 : decode cX6_has 6 = .ok (.if_icmp .ne 7, 3) := by decide +kernel
theorem dX6_has_9 : decode cX6_has 9 = .ok (.iconst 1, 1) := by decide +kernel
theorem dX6_has_10 : decode cX6_has 10 = .ok (.goto 4, 3) := by decide +kernel
theorem dX6_has_13 : decode cX6_has 13 = .ok (.iconst 0, 1) := by decide +kernel
theorem dX6_has_14 : decode cX6_has 14 = .ok (.ireturn, 1) := by decide +kernel
theorem dX6_ones_0 : decode cX6_ones 0 = .ok (.iload_n 0, 1) := by decide +kernel
theorem dX6_ones_1 : decode cX6_ones 1 = .ok (.iconst 1, 1) := by decide +kernel
theorem dX6_ones_2 : decode cX6_ones 2 = .ok (.iand, 1) := by decide +kernel
theorem dX6_ones_3 : decode cX6_ones 3 = .ok (.iload_n 0, 1) := by decide +kernel
theorem dX6_ones_4 : decode cX6_ones 4 = .ok (.iconst 1, 1) := by decide +kernel
theorem dX6_ones_5 : decode cX6_ones 5 = .ok (.ishr, 1) := by decide +kernel
theorem dX6_ones_6 : decode cX6_ones 6 = .ok (.iconst 1, 1) := by decide +kernel
theorem dX6_ones_7 : decode cX6_ones 7 = .ok (.iand, 1) := by decide +kernel
theorem dX6_ones_8 : decode cX6_ones 8 = .ok (.iadd, 1) := by decide +kernel
theorem dX6_ones_9 : decode cX6_ones 9 = .ok (.iload_n 0, 1) := by decide +kernel
theorem dX6_ones_10 : decode cX6_ones 10 = .ok (.iconst 2, 1) := by decide +kernel
theorem dX6_ones_11 : decode cX6_ones 11 = .ok (.ishr, 1) := by decide +kernel
theorem dX6_ones_12 : decode cX6_ones 12 = .ok (.iconst 1, 1) := by decide +kernel
theorem dX6_ones_13 : decode cX6_ones 13 = .ok (.iand, 1) := by decide +kernel
theorem dX6_ones_14 : decode cX6_ones 14 = .ok (.iadd, 1) := by decide +kernel
theorem dX6_ones_15 : decode cX6_ones 15 = .ok (.iload_n 0, 1) := by decide +kernel
theorem dX6_ones_16 : decode cX6_ones 16 = .ok (.iconst 3, 1) := by decide +kernel
theorem dX6_ones_17 : decode cX6_ones 17 = .ok (.ishr, 1) := by decide +kernel
theorem dX6_ones_18 : decode cX6_ones 18 = .ok (.iconst 1, 1) := by decide +kernel
theorem dX6_ones_19 : decode cX6_ones 19 = .ok (.iand, 1) := by decide +kernel
theorem dX6_ones_20 : decode cX6_ones 20 = .ok (.iadd, 1) := by decide +kernel
theorem dX6_ones_21 : decode cX6_ones 21 = .ok (.ireturn, 1) := by decide +kernel
theorem dX6_fourTo_0 : decode cX6_fourTo 0 = .ok (.iconst 1, 1) := by decide +kernel
theorem dX6_fourTo_1 : decode cX6_fourTo 1 = .ok (.iconst 2, 1) := by decide +kernel
theorem dX6_fourTo_2 : decode cX6_fourTo 2 = .ok (.iload_n 0, 1) := by decide +kernel
theorem dX6_fourTo_3 : decode cX6_fourTo 3 = .ok (.imul, 1) := by decide +kernel
theorem dX6_fourTo_4 : decode cX6_fourTo 4 = .ok (.ishl, 1) := by decide +kernel
theorem dX6_fourTo_5 : decode cX6_fourTo 5 = .ok (.ireturn, 1) := by decide +kernel
set_option maxRecDepth 20000 in
theorem ggX6_write_X6_in : GoodIn wsX6_write wsX6_in := goodIn_r _ [7] (by decide +kernel) (by decide +kernel)
set_option maxRecDepth 20000 in
theorem gX6_write_X6_in : GoodIn wsX6_write (va_wsS RX6 52 yX6_in wsX6_in) := goodIn_app (goodIn_of _ (by decide +kernel)) ggX6_write_X6_in
theorem dX6_write_0 : decode cX6_write 0 = .ok (.iload_n 1, 1) := by decide +kernel
theorem dX6_write_1 : decode cX6_write 1 = .ok (.i2l, 1) := by decide +kernel
theorem dX6_write_2 : decode cX6_write 2 = .ok (.lconst 0, 1) := by decide +kernel
theorem dX6_write_3 : decode cX6_write 3 = .ok (.ldc2_w 50, 3) := by decide +kernel
theorem dX6_write_6 : decode cX6_write 6 = .ok (.invokestatic 52, 3) := by decide +kernel
theorem dX6_write_9 : decode cX6_write 9 = .ok (.ifCond .ne 6, 3) := by decide +kernel
theorem dX6_write_12 : decode cX6_write 12 = .ok (.bipush (-2), 2) := by decide +kernel
theorem dX6_write_14 : decode cX6_write 14 = .ok (.ireturn, 1) := by decide +kernel
theorem dX6_write_15 : decode cX6_write 15 = .ok (.aload_n 0, 1) := by decide +kernel
theorem dX6_write_16 : decode cX6_write 16 = .ok (.getfield 56, 3) := by decide +kernel
theorem dX6_write_19 : decode cX6_write 19 = .ok (.bipush 32, 2) := by decide +kernel
theorem dX6_write_21 : decode cX6_write 21 = .ok (.if_icmp .ne 6, 3) := by decide +kernel
theorem dX6_write_24 : decode cX6_write 24 = .ok (.bipush (-4), 2) := by decide +kernel
theorem dX6_write_26 : decode cX6_write 26 = .ok (.ireturn, 1) := by decide +kernel
theorem dX6_write_27 : decode cX6_write 27 = .ok (.aload_n 0, 1) := by decide +kernel
theorem dX6_write_28 : decode cX6_write 28 = .ok (.getfield 22, 3) := by decide +kernel
theorem dX6_write_31 : decode cX6_write 31 = .ok (.aload_n 0, 1) := by decide +kernel
theorem dX6_write_32 : decode cX6_write 32 = .ok (.getfield 56, 3) := by decide +kernel
theorem dX6_write_35 : decode cX6_write 35 = .ok (.iload_n 1, 1) := by decide +kernel
theorem dX6_write_36 : decode cX6_write 36 = .ok (.iastore, 1) := by decide +kernel
theorem dX6_write_37 : decode cX6_write 37 = .ok (.aload_n 0, 1) := by decide +kernel
theorem dX6_write_38 : decode cX6_write 38 = .ok (.dup, 1) := by decide +kernel
theorem dX6_write_39 : decode cX6_write 39 = .ok (.getfield 56, 3) := by decide +kernel
theorem dX6_write_42 : decode cX6_write 42 = .ok (.iconst 1, 1) := by decide +kernel
theorem dX6_write_43 : decode cX6_write 43 = .ok (.iadd, 1) := by decide +kernel
theorem dX6_write_44 : decode cX6_write 44 = .ok (.putfield 56, 3) := by decide +kernel
theorem dX6_write_47 : decode cX6_write 47 = .ok (.aload_n 0, 1) := by decide +kernel
theorem dX6_write_48 : decode cX6_write 48 = .ok (.getfield 56, 3) := by decide +kernel
theorem dX6_write_51 : decode cX6_write 51 = .ok (.ireturn, 1) := by decide +kernel
theorem dX6_wipe_0 : decode cX6_wipe 0 = .ok (.aload_n 0, 1) := by decide +kernel
theorem dX6_wipe_1 : decode cX6_wipe 1 = .ok (.getfield 56, 3) := by decide +kernel
theorem dX6_wipe_4 : decode cX6_wipe 4 = .ok (.istore_n 1, 1) := by decide +kernel
theorem dX6_wipe_5 : decode cX6_wipe 5 = .ok (.aload_n 0, 1) := by decide +kernel
theorem dX6_wipe_6 : decode cX6_wipe 6 = .ok (.iconst 0, 1) := by decide +kernel
theorem dX6_wipe_7 : decode cX6_wipe 7 = .ok (.putfield 56, 3) := by decide +kernel
theorem dX6_wipe_10 : decode cX6_wipe 10 = .ok (.iload_n 1, 1) := by decide +kernel
theorem dX6_wipe_11 : decode cX6_wipe 11 = .ok (.ireturn, 1) := by decide +kernel
set_option maxRecDepth 20000 in
theorem ggX6_isWord_X6_in : GoodIn wsX6_isWord wsX6_in := goodIn_r _ [6] (by decide +kernel) (by decide +kernel)
set_option maxRecDepth 20000 in
theorem gX6_isWord_X6_in : GoodIn wsX6_isWord (va_wsS RX6 52 yX6_in wsX6_in) := goodIn_app (goodIn_of _ (by decide +kernel)) ggX6_isWord_X6_in
theorem dX6_isWord_0 : decode cX6_isWord 0 = .ok (.iload_n 0, 1) := by decide +kernel
theorem dX6_isWord_1 : decode cX6_isWord 1 = .ok (.i2l, 1) := by decide +kernel
theorem dX6_isWord_2 : decode cX6_isWord 2 = .ok (.ldc2_w 60, 3) := by decide +kernel
theorem dX6_isWord_5 : decode cX6_isWord 5 = .ok (.ldc2_w 62, 3) := by decide +kernel
theorem dX6_isWord_8 : decode cX6_isWord 8 = .ok (.invokestatic 52, 3) := by decide +kernel
theorem dX6_isWord_11 : decode cX6_isWord 11 = .ok (.ireturn, 1) := by decide +kernel
set_option maxRecDepth 20000 in
theorem ggX6_mayBe_X6_isWord : GoodIn wsX6_mayBe wsX6_isWord := goodIn_r _ [7, 8, 9, 10, 11, 6, 12] (by decide +kernel) (by decide +kernel)
set_option maxRecDepth 20000 in
theorem gX6_mayBe_X6_isWord : GoodIn wsX6_mayBe (va_wsS RX6 64 yX6_isWord wsX6_isWord) := goodIn_app (goodIn_of _ (by decide +kernel)) ggX6_mayBe_X6_isWord
set_option maxRecDepth 20000 in
theorem ggX6_mayBe_X6_in : GoodIn wsX6_mayBe wsX6_in := goodIn_r _ [12] (by decide +kernel) (by decide +kernel)
set_option maxRecDepth 20000 in
theorem gX6_mayBe_X6_in : GoodIn wsX6_mayBe (va_wsS RX6 52 yX6_in wsX6_in) := goodIn_app (goodIn_of _ (by decide +kernel)) ggX6_mayBe_X6_in
theorem dX6_mayBe_0 : decode cX6_mayBe 0 = .ok (.aload_n 0, 1) := by decide +kernel
theorem dX6_mayBe_1 : decode cX6_mayBe 1 = .ok (.getfield 22, 3) := by decide +kernel
theorem dX6_mayBe_4 : decode cX6_mayBe 4 = .ok (.iload_n 1, 1) := by decide +kernel
theorem dX6_mayBe_5 : decode cX6_mayBe 5 = .ok (.iaload, 1) := by decide +kernel
theorem dX6_mayBe_6 : decode cX6_mayBe 6 = .ok (.istore_n 2, 1) := by decide +kernel
theorem dX6_mayBe_7 : decode cX6_mayBe 7 = .ok (.iload_n 1, 1) := by decide +kernel
theorem dX6_mayBe_8 : decode cX6_mayBe 8 = .ok (.ifCond .ne 15, 3) := by decide +kernel
theorem dX6_mayBe_11 : decode cX6_mayBe 11 = .ok (.iload_n 2, 1) := by decide +kernel
theorem dX6_mayBe_12 : decode cX6_mayBe 12 = .ok (.bipush 67, 2) := by decide +kernel
theorem dX6_mayBe_14 : decode cX6_mayBe 14 = .ok (.if_icmp .ne 7, 3) := by decide +kernel
theorem dX6_mayBe_17 : decode cX6_mayBe 17 = .ok (.iconst 1, 1) := by decide +kernel
theorem dX6_mayBe_18 : decode cX6_mayBe 18 = .ok (.goto 4, 3) := by decide +kernel
theorem dX6_mayBe_21 : decode cX6_mayBe 21 = .ok (.iconst 0, 1) := by decide +kernel
theorem dX6_mayBe_22 : decode cX6_mayBe 22 = .ok (.ireturn, 1) := by decide +kernel
theorem dX6_mayBe_23 : decode cX6_mayBe 23 = .ok (.iload_n 1, 1) := by decide +kernel
theorem dX6_mayBe_24 : decode cX6_mayBe 24 = .ok (.bipush 24, 2) := by decide +kernel
theorem dX6_mayBe_26 : decode cX6_mayBe 26 = .ok (.if_icmp .le 5, 3) := by decide +kernel
theorem dX6_mayBe_29 : decode cX6_mayBe 29 = .ok (.iconst 0, 1) := by decide +kernel
theorem dX6_mayBe_30 : decode cX6_mayBe 30 = .ok (.ireturn, 1) := by decide +kernel
theorem dX6_mayBe_31 : decode cX6_mayBe 31 = .ok (.iload_n 1, 1) := by decide +kernel
theorem dX6_mayBe_32 : decode cX6_mayBe 32 = .ok (.iconst 1, 1) := by decide +kernel
theorem dX6_mayBe_33 : decode cX6_mayBe 33 = .ok (.isub, 1) := by decide +kernel
theorem dX6_mayBe_34 : decode cX6_mayBe 34 = .ok (.bipush 6, 2) := by decide +kernel
theorem dX6_mayBe_36 : decode cX6_mayBe 36 = .ok (.irem, 1) := by decide +kernel
theorem dX6_mayBe_37 : decode cX6_mayBe 37 = .ok (.tableswitch 130 0 4 #[35, 47, 47, 66, 118], 35) := by decide +kernel
theorem dX6_mayBe_72 : decode cX6_mayBe 72 = .ok (.iload_n 2, 1) := by decide +kernel
theorem dX6_mayBe_73 : decode cX6_mayBe 73 = .ok (.bipush 75, 2) := by decide +kernel
theorem dX6_mayBe_75 : decode cX6_mayBe 75 = .ok (.if_icmp .ne 7, 3) := by decide +kernel
theorem dX6_mayBe_78 : decode cX6_mayBe 78 = .ok (.iconst 1, 1) := by decide +kernel
theorem dX6_mayBe_79 : decode cX6_mayBe 79 = .ok (.goto 4, 3) := by decide +kernel
theorem dX6_mayBe_82 : decode cX6_mayBe 82 = .ok (.iconst 0, 1) := by decide +kernel
theorem dX6_mayBe_83 : decode cX6_mayBe 83 = .ok (.ireturn, 1) := by decide +kernel
theorem dX6_mayBe_84 : decode cX6_mayBe 84 = .ok (.iload_n 2, 1) := by decide +kernel
theorem dX6_mayBe_85 : decode cX6_mayBe 85 = .ok (.bipush 45, 2) := by decide +kernel
theorem dX6_mayBe_87 : decode cX6_mayBe 87 = .ok (.if_icmp .eq 10, 3) := by decide +kernel
theorem dX6_mayBe_90 : decode cX6_mayBe 90 = .ok (.iload_n 2, 1) := by decide +kernel
theorem dX6_mayBe_91 : decode cX6_mayBe 91 = .ok (.invokestatic 64, 3) := by decide +kernel
theorem dX6_mayBe_94 : decode cX6_mayBe 94 = .ok (.ifCond .eq 7, 3) := by decide +kernel
theorem dX6_mayBe_97 : decode cX6_mayBe 97 = .ok (.iconst 1, 1) := by decide +kernel
theorem dX6_mayBe_98 : decode cX6_mayBe 98 = .ok (.goto 4, 3) := by decide +kernel
theorem dX6_mayBe_101 : decode cX6_mayBe 101 = .ok (.iconst 0, 1) := by decide +kernel
theorem dX6_mayBe_102 : decode cX6_mayBe 102 = .ok (.ireturn, 1) := by decide +kernel
theorem dX6_mayBe_103 : decode cX6_mayBe 103 = .ok (.aload_n 0, 1) := by decide +kernel
theorem dX6_mayBe_104 : decode cX6_mayBe 104 = .ok (.getfield 22, 3) := by decide +kernel
theorem dX6_mayBe_107 : decode cX6_mayBe 107 = .ok (.iload_n 1, 1) := by decide +kernel
theorem dX6_mayBe_108 : decode cX6_mayBe 108 = .ok (.iconst 1, 1) := by decide +kernel
theorem dX6_mayBe_109 : decode cX6_mayBe 109 = .ok (.isub, 1) := by decide +kernel
theorem dX6_mayBe_110 : decode cX6_mayBe 110 = .ok (.iaload, 1) := by decide +kernel
theorem dX6_mayBe_111 : decode cX6_mayBe 111 = .ok (.bipush 45, 2) := by decide +kernel
theorem dX6_mayBe_113 : decode cX6_mayBe 113 = .ok (.if_icmp .ne 17, 3) := by decide +kernel
theorem dX6_mayBe_116 : decode cX6_mayBe 116 = .ok (.iload_n 2, 1) := by decide +kernel
theorem dX6_mayBe_117 : decode cX6_mayBe 117 = .ok (.bipush 45, 2) := by decide +kernel
theorem dX6_mayBe_119 : decode cX6_mayBe 119 = .ok (.if_icmp .ne 7, 3) := by decide +kernel
theorem dX6_mayBe_122 : decode cX6_mayBe 122 = .ok (.iconst 1, 1) := by decide +kernel
theorem dX6_mayBe_123 : decode cX6_mayBe 123 = .ok (.goto 31, 3) := by decide +kernel
theorem dX6_mayBe_126 : decode cX6_mayBe 126 = .ok (.iconst 0, 1) := by decide +kernel
theorem dX6_mayBe_127 : decode cX6_mayBe 127 = .ok (.goto 27, 3) := by decide +kernel
theorem dX6_mayBe_130 : decode cX6_mayBe 130 = .ok (.iload_n 2, 1) := by decide +kernel
theorem dX6_mayBe_131 : decode cX6_mayBe 131 = .ok (.invokestatic 64, 3) := by decide +kernel
theorem dX6_mayBe_134 : decode cX6_mayBe 134 = .ok (.ifCond .eq 19, 3) := by decide +kernel
theorem dX6_mayBe_137 : decode cX6_mayBe 137 = .ok (.iload_n 2, 1) := by decide +kernel
theorem dX6_mayBe_138 : decode cX6_mayBe 138 = .ok (.aload_n 0, 1) := by decide +kernel
theorem dX6_mayBe_139 : decode cX6_mayBe 139 = .ok (.getfield 22, 3) := by decide +kernel
theorem dX6_mayBe_142 : decode cX6_mayBe 142 = .ok (.iload_n 1, 1) := by decide +kernel
theorem dX6_mayBe_143 : decode cX6_mayBe 143 = .ok (.iconst 1, 1) := by decide +kernel
theorem dX6_mayBe_144 : decode cX6_mayBe 144 = .ok (.isub, 1) := by decide +kernel
theorem dX6_mayBe_145 : decode cX6_mayBe 145 = .ok (.iaload, 1) := by decide +kernel
theorem dX6_mayBe_146 : decode cX6_mayBe 146 = .ok (.if_icmp .eq 7, 3) := by decide +kernel
theorem dX6_mayBe_149 : decode cX6_mayBe 149 = .ok (.iconst 1, 1) := by decide +kernel
theorem dX6_mayBe_150 : decode cX6_mayBe 150 = .ok (.goto 4, 3) := by decide +kernel
theorem dX6_mayBe_153 : decode cX6_mayBe 153 = .ok (.iconst 0, 1) := by decide +kernel
theorem dX6_mayBe_154 : decode cX6_mayBe 154 = .ok (.ireturn, 1) := by decide +kernel
theorem dX6_mayBe_155 : decode cX6_mayBe 155 = .ok (.iload_n 2, 1) := by decide +kernel
theorem dX6_mayBe_156 : decode cX6_mayBe 156 = .ok (.i2l, 1) := by decide +kernel
theorem dX6_mayBe_157 : decode cX6_mayBe 157 = .ok (.ldc2_w 68, 3) := by decide +kernel
theorem dX6_mayBe_160 : decode cX6_mayBe 160 = .ok (.ldc2_w 70, 3) := by decide +kernel
theorem dX6_mayBe_163 : decode cX6_mayBe 163 = .ok (.invokestatic 52, 3) := by decide +kernel
theorem dX6_mayBe_166 : decode cX6_mayBe 166 = .ok (.ireturn, 1) := by decide +kernel
theorem dX6_mayBe_167 : decode cX6_mayBe 167 = .ok (.iload_n 2, 1) := by decide +kernel
theorem dX6_mayBe_168 : decode cX6_mayBe 168 = .ok (.bipush 45, 2) := by decide +kernel
theorem dX6_mayBe_170 : decode cX6_mayBe 170 = .ok (.if_icmp .eq 24, 3) := by decide +kernel
theorem dX6_mayBe_173 : decode cX6_mayBe 173 = .ok (.iload_n 2, 1) := by decide +kernel
theorem dX6_mayBe_174 : decode cX6_mayBe 174 = .ok (.i2l, 1) := by decide +kernel
theorem dX6_mayBe_175 : decode cX6_mayBe 175 = .ok (.ldc2_w 68, 3) := by decide +kernel
theorem dX6_mayBe_178 : decode cX6_mayBe 178 = .ok (.bipush 47, 2) := by decide +kernel
theorem dX6_mayBe_180 : decode cX6_mayBe 180 = .ok (.iload_n 1, 1) := by decide +kernel
theorem dX6_mayBe_181 : decode cX6_mayBe 181 = .ok (.iconst 1, 1) := by decide +kernel
theorem dX6_mayBe_182 : decode cX6_mayBe 182 = .ok (.isub, 1) := by decide +kernel
theorem dX6_mayBe_183 : decode cX6_mayBe 183 = .ok (.bipush 6, 2) := by decide +kernel
theorem dX6_mayBe_185 : decode cX6_mayBe 185 = .ok (.idiv, 1) := by decide +kernel
theorem dX6_mayBe_186 : decode cX6_mayBe 186 = .ok (.iadd, 1) := by decide +kernel
theorem dX6_mayBe_187 : decode cX6_mayBe 187 = .ok (.i2l, 1) := by decide +kernel
theorem dX6_mayBe_188 : decode cX6_mayBe 188 = .ok (.invokestatic 52, 3) := by decide +kernel
theorem dX6_mayBe_191 : decode cX6_mayBe 191 = .ok (.ifCond .eq 7, 3) := by decide +kernel
theorem dX6_mayBe_194 : decode cX6_mayBe 194 = .ok (.iconst 1, 1) := by decide +kernel
theorem dX6_mayBe_195 : decode cX6_mayBe 195 = .ok (.goto 4, 3) := by decide +kernel
theorem dX6_mayBe_198 : decode cX6_mayBe 198 = .ok (.iconst 0, 1) := by decide +kernel
theorem dX6_mayBe_199 : decode cX6_mayBe 199 = .ok (.ireturn, 1) := by decide +kernel
set_option maxRecDepth 20000 in
theorem ggX6_fault_X6_mayBe : GoodIn wsX6_fault wsX6_mayBe := goodIn_r _ [6, 7, 8, 9, 10, 11, 5, 12, 13, 14, 15, 16, 17, 18, 19, 20, 21, 22, 23, 24, 25, 26, 27, 28, 29, 30, 31, 32, 33, 34, 35, 36] (by decide +kernel) (by decide +kernel)
set_option maxRecDepth 20000 in
theorem gX6_fault_X6_mayBe : GoodIn wsX6_fault (wsV RX6 72 RX6 yX6_mayBe wsX6_mayBe) := goodIn_app (goodIn_of _ (by decide +kernel)) ggX6_fault_X6_mayBe
theorem dX6_fault_0 : decode cX6_fault 0 = .ok (.iconst 0, 1) := by decide +kernel
theorem dX6_fault_1 : decode cX6_fault 1 = .ok (.istore_n 1, 1) := by decide +kernel
theorem dX6_fault_2 : decode cX6_fault 2 = .ok (.iload_n 1, 1) := by decide +kernel
theorem dX6_fault_3 : decode cX6_fault 3 = .ok (.aload_n 0, 1) := by decide +kernel
theorem dX6_fault_4 : decode cX6_fault 4 = .ok (.getfield 56, 3) := by decide +kernel
theorem dX6_fault_7 : decode cX6_fault 7 = .ok (.if_icmp .ge 19, 3) := by decide +kernel
theorem dX6_fault_10 : decode cX6_fault 10 = .ok (.aload_n 0, 1) := by decide +kernel
theorem dX6_fault_11 : decode cX6_fault 11 = .ok (.iload_n 1, 1) := by decide +kernel
theorem dX6_fault_12 : decode cX6_fault 12 = .ok (.invokevirtual 72, 3) := by decide +kernel
theorem dX6_fault_15 : decode cX6_fault 15 = .ok (.ifCond .ne 5, 3) := by decide +kernel
theorem dX6_fault_18 : decode cX6_fault 18 = .ok (.iload_n 1, 1) := by decide +kernel
theorem dX6_fault_19 : decode cX6_fault 19 = .ok (.ireturn, 1) := by decide +kernel
theorem dX6_fault_20 : decode cX6_fault 20 = .ok (.iinc 1 1, 3) := by decide +kernel
theorem dX6_fault_23 : decode cX6_fault 23 = .ok (.goto (-21), 3) := by decide +kernel
theorem dX6_fault_26 : decode cX6_fault 26 = .ok (.aload_n 0, 1) := by decide +kernel
theorem dX6_fault_27 : decode cX6_fault 27 = .ok (.getfield 56, 3) := by decide +kernel
theorem dX6_fault_30 : decode cX6_fault 30 = .ok (.ifCond .le 20, 3) := by decide +kernel
theorem dX6_fault_33 : decode cX6_fault 33 = .ok (.aload_n 0, 1) := by decide +kernel
theorem dX6_fault_34 : decode cX6_fault 34 = .ok (.getfield 56, 3) := by decide +kernel
theorem dX6_fault_37 : decode cX6_fault 37 = .ok (.iconst 1, 1) := by decide +kernel
theorem dX6_fault_38 : decode cX6_fault 38 = .ok (.isub, 1) := by decide +kernel
theorem dX6_fault_39 : decode cX6_fault 39 = .ok (.bipush 6, 2) := by decide +kernel
theorem dX6_fault_41 : decode cX6_fault 41 = .ok (.irem, 1) := by decide +kernel
theorem dX6_fault_42 : decode cX6_fault 42 = .ok (.ifCond .ne 8, 3) := by decide +kernel
theorem dX6_fault_45 : decode cX6_fault 45 = .ok (.bipush (-9), 2) := by decide +kernel
theorem dX6_fault_47 : decode cX6_fault 47 = .ok (.goto 7, 3) := by decide +kernel
theorem dX6_fault_50 : decode cX6_fault 50 = .ok (.aload_n 0, 1) := by decide +kernel
theorem dX6_fault_51 : decode cX6_fault 51 = .ok (.getfield 56, 3) := by decide +kernel
theorem dX6_fault_54 : decode cX6_fault 54 = .ok (.ireturn, 1) := by decide +kernel
theorem dX6_sign_0 : decode cX6_sign 0 = .ok (.aload_n 0, 1) := by decide +kernel
theorem dX6_sign_1 : decode cX6_sign 1 = .ok (.getfield 22, 3) := by decide +kernel
theorem dX6_sign_4 : decode cX6_sign 4 = .ok (.iload_n 1, 1) := by decide +kernel
theorem dX6_sign_5 : decode cX6_sign 5 = .ok (.iaload, 1) := by decide +kernel
theorem dX6_sign_6 : decode cX6_sign 6 = .ok (.bipush 45, 2) := by decide +kernel
theorem dX6_sign_8 : decode cX6_sign 8 = .ok (.if_icmp .ne 8, 3) := by decide +kernel
theorem dX6_sign_11 : decode cX6_sign 11 = .ok (.bipush (-9), 2) := by decide +kernel
theorem dX6_sign_13 : decode cX6_sign 13 = .ok (.goto 11, 3) := by decide +kernel
theorem dX6_sign_16 : decode cX6_sign 16 = .ok (.aload_n 0, 1) := by decide +kernel
theorem dX6_sign_17 : decode cX6_sign 17 = .ok (.getfield 22, 3) := by decide +kernel
theorem dX6_sign_20 : decode cX6_sign 20 = .ok (.iload_n 1, 1) := by decide +kernel
theorem dX6_sign_21 : decode cX6_sign 21 = .ok (.iaload, 1) := by decide +kernel
theorem dX6_sign_22 : decode cX6_sign 22 = .ok (.iload_n 2, 1) := by decide +kernel
theorem dX6_sign_23 : decode cX6_sign 23 = .ok (.isub, 1) := by decide +kernel
theorem dX6_sign_24 : decode cX6_sign 24 = .ok (.ireturn, 1) := by decide +kernel
set_option maxRecDepth 20000 in
theorem ggX6_court_X6_fault : GoodIn wsX6_court wsX6_fault := goodIn_r _ [14, 1, 15, 16, 17, 13, 18, 6, 19, 20, 21, 22, 23, 24, 25, 26, 27, 28, 33, 34, 35, 36, 37, 38, 39, 40, 41, 42, 43, 44, 45, 46, 47, 48, 49, 50, 51] (by decide +kernel) (by decide +kernel)
set_option maxRecDepth 20000 in
theorem gX6_court_X6_fault : GoodIn wsX6_court (wsV RX6 75 RX6 yX6_fault wsX6_fault) := goodIn_app (goodIn_of _ (by decide +kernel)) ggX6_court_X6_fault
set_option maxRecDepth 20000 in
theorem ggX6_court_X6_sign : GoodIn wsX6_court wsX6_sign := goodIn_r _ [32, 6, 33, 34, 35, 36, 37, 38, 39, 40, 41, 42, 43, 44, 45, 46, 47, 48, 49, 50, 51] (by decide +kernel) (by decide +kernel)
set_option maxRecDepth 20000 in
theorem gX6_court_X6_sign : GoodIn wsX6_court (wsV RX6 82 RX6 yX6_sign wsX6_sign) := goodIn_app (goodIn_of _ (by decide +kernel)) ggX6_court_X6_sign
theorem dX6_court_0 : decode cX6_court 0 = .ok (.aload_n 0, 1) := by decide +kernel
theorem dX6_court_1 : decode cX6_court 1 = .ok (.invokevirtual 75, 3) := by decide +kernel
theorem dX6_court_4 : decode cX6_court 4 = .ok (.bipush (-9), 2) := by decide +kernel
theorem dX6_court_6 : decode cX6_court 6 = .ok (.if_icmp .eq 6, 3) := by decide +kernel
theorem dX6_court_9 : decode cX6_court 9 = .ok (.bipush (-3), 2) := by decide +kernel
theorem dX6_court_11 : decode cX6_court 11 = .ok (.ireturn, 1) := by decide +kernel
theorem dX6_court_12 : decode cX6_court 12 = .ok (.aload_n 0, 1) := by decide +kernel
theorem dX6_court_13 : decode cX6_court 13 = .ok (.aload_n 0, 1) := by decide +kernel
theorem dX6_court_14 : decode cX6_court 14 = .ok (.getfield 56, 3) := by decide +kernel
theorem dX6_court_17 : decode cX6_court 17 = .ok (.iconst 1, 1) := by decide +kernel
theorem dX6_court_18 : decode cX6_court 18 = .ok (.isub, 1) := by decide +kernel
theorem dX6_court_19 : decode cX6_court 19 = .ok (.bipush 6, 2) := by decide +kernel
theorem dX6_court_21 : decode cX6_court 21 = .ok (.idiv, 1) := by decide +kernel
theorem dX6_court_22 : decode cX6_court 22 = .ok (.putfield 79, 3) := by decide +kernel
theorem dX6_court_25 : decode cX6_court 25 = .ok (.aload_n 0, 1) := by decide +kernel
theorem dX6_court_26 : decode cX6_court 26 = .ok (.getfield 16, 3) := by decide +kernel
theorem dX6_court_29 : decode cX6_court 29 = .ok (.iconst 0, 1) := by decide +kernel
theorem dX6_court_30 : decode cX6_court 30 = .ok (.iconst 0, 1) := by decide +kernel
theorem dX6_court_31 : decode cX6_court 31 = .ok (.iastore, 1) := by decide +kernel
theorem dX6_court_32 : decode cX6_court 32 = .ok (.iconst 0, 1) := by decide +kernel
theorem dX6_court_33 : decode cX6_court 33 = .ok (.istore_n 1, 1) := by decide +kernel
theorem dX6_court_34 : decode cX6_court 34 = .ok (.iload_n 1, 1) := by decide +kernel
theorem dX6_court_35 : decode cX6_court 35 = .ok (.iconst 4, 1) := by decide +kernel
theorem dX6_court_36 : decode cX6_court 36 = .ok (.if_icmp .ge 164, 3) := by decide +kernel
theorem dX6_court_39 : decode cX6_court 39 = .ok (.iconst 2, 1) := by decide +kernel
theorem dX6_court_40 : decode cX6_court 40 = .ok (.bipush 6, 2) := by decide +kernel
theorem dX6_court_42 : decode cX6_court 42 = .ok (.iload_n 1, 1) := by decide +kernel
theorem dX6_court_43 : decode cX6_court 43 = .ok (.imul, 1) := by decide +kernel
theorem dX6_court_44 : decode cX6_court 44 = .ok (.iadd, 1) := by decide +kernel
theorem dX6_court_45 : decode cX6_court 45 = .ok (.istore_n 2, 1) := by decide +kernel
theorem dX6_court_46 : decode cX6_court 46 = .ok (.iload_n 1, 1) := by decide +kernel
theorem dX6_court_47 : decode cX6_court 47 = .ok (.aload_n 0, 1) := by decide +kernel
theorem dX6_court_48 : decode cX6_court 48 = .ok (.getfield 79, 3) := by decide +kernel
theorem dX6_court_51 : decode cX6_court 51 = .ok (.if_icmp .ge 7, 3) := by decide +kernel
theorem dX6_court_54 : decode cX6_court 54 = .ok (.iconst 1, 1) := by decide +kernel
theorem dX6_court_55 : decode cX6_court 55 = .ok (.goto 4, 3) := by decide +kernel
theorem dX6_court_58 : decode cX6_court 58 = .ok (.iconst 0, 1) := by decide +kernel
theorem dX6_court_59 : decode cX6_court 59 = .ok (.istore_n 3, 1) := by decide +kernel
theorem dX6_court_60 : decode cX6_court 60 = .ok (.aload_n 0, 1) := by decide +kernel
theorem dX6_court_61 : decode cX6_court 61 = .ok (.getfield 7, 3) := by decide +kernel
theorem dX6_court_64 : decode cX6_court 64 = .ok (.iload_n 1, 1) := by decide +kernel
theorem dX6_court_65 : decode cX6_court 65 = .ok (.iload_n 3, 1) := by decide +kernel
theorem dX6_court_66 : decode cX6_court 66 = .ok (.ifCond .eq 13, 3) := by decide +kernel
theorem dX6_court_69 : decode cX6_court 69 = .ok (.aload_n 0, 1) := by decide +kernel
theorem dX6_court_70 : decode cX6_court 70 = .ok (.iload_n 2, 1) := by decide +kernel
theorem dX6_court_71 : decode cX6_court 71 = .ok (.bipush 97, 2) := by decide +kernel
theorem dX6_court_73 : decode cX6_court 73 = .ok (.invokevirtual 82, 3) := by decide +kernel
theorem dX6_court_76 : decode cX6_court 76 = .ok (.goto 5, 3) := by decide +kernel
theorem dX6_court_79 : decode cX6_court 79 = .ok (.bipush (-9), 2) := by decide +kernel
theorem dX6_court_81 : decode cX6_court 81 = .ok (.iastore, 1) := by decide +kernel
theorem dX6_court_82 : decode cX6_court 82 = .ok (.aload_n 0, 1) := by decide +kernel
theorem dX6_court_83 : decode cX6_court 83 = .ok (.getfield 16, 3) := by decide +kernel
theorem dX6_court_86 : decode cX6_court 86 = .ok (.iconst 1, 1) := by decide +kernel
theorem dX6_court_87 : decode cX6_court 87 = .ok (.iload_n 1, 1) := by decide +kernel
theorem dX6_court_88 : decode cX6_court 88 = .ok (.iadd, 1) := by decide +kernel
theorem dX6_court_89 : decode cX6_court 89 = .ok (.iload_n 3, 1) := by decide +kernel
theorem dX6_court_90 : decode cX6_court 90 = .ok (.ifCond .eq 15, 3) := by decide +kernel
theorem dX6_court_93 : decode cX6_court 93 = .ok (.aload_n 0, 1) := by decide +kernel
theorem dX6_court_94 : decode cX6_court 94 = .ok (.iload_n 2, 1) := by decide +kernel
theorem dX6_court_95 : decode cX6_court 95 = .ok (.iconst 1, 1) := by decide +kernel
theorem dX6_court_96 : decode cX6_court 96 = .ok (.iadd, 1) := by decide +kernel
theorem dX6_court_97 : decode cX6_court 97 = .ok (.bipush 97, 2) := by decide +kernel
theorem dX6_court_99 : decode cX6_court 99 = .ok (.invokevirtual 82, 3) := by decide +kernel
theorem dX6_court_102 : decode cX6_court 102 = .ok (.goto 5, 3) := by decide +kernel
theorem dX6_court_105 : decode cX6_court 105 = .ok (.bipush (-9), 2) := by decide +kernel
theorem dX6_court_107 : decode cX6_court 107 = .ok (.iastore, 1) := by decide +kernel
theorem dX6_court_108 : decode cX6_court 108 = .ok (.aload_n 0, 1) := by decide +kernel
theorem dX6_court_109 : decode cX6_court 109 = .ok (.getfield 16, 3) := by decide +kernel
theorem dX6_court_112 : decode cX6_court 112 = .ok (.iconst 5, 1) := by decide +kernel
theorem dX6_court_113 : decode cX6_court 113 = .ok (.iload_n 1, 1) := by decide +kernel
theorem dX6_court_114 : decode cX6_court 114 = .ok (.iadd, 1) := by decide +kernel
theorem dX6_court_115 : decode cX6_court 115 = .ok (.iload_n 3, 1) := by decide +kernel
theorem dX6_court_116 : decode cX6_court 116 = .ok (.ifCond .eq 15, 3) := by decide +kernel
theorem dX6_court_119 : decode cX6_court 119 = .ok (.aload_n 0, 1) := by decide +kernel
theorem dX6_court_120 : decode cX6_court 120 = .ok (.iload_n 2, 1) := by decide +kernel
theorem dX6_court_121 : decode cX6_court 121 = .ok (.iconst 2, 1) := by decide +kernel
theorem dX6_court_122 : decode cX6_court 122 = .ok (.iadd, 1) := by decide +kernel
theorem dX6_court_123 : decode cX6_court 123 = .ok (.bipush 97, 2) := by decide +kernel
theorem dX6_court_125 : decode cX6_court 125 = .ok (.invokevirtual 82, 3) := by decide +kernel
theorem dX6_court_128 : decode cX6_court 128 = .ok (.goto 5, 3) := by decide +kernel
theorem dX6_court_131 : decode cX6_court 131 = .ok (.bipush (-9), 2) := by decide +kernel
theorem dX6_court_133 : decode cX6_court 133 = .ok (.iastore, 1) := by decide +kernel
theorem dX6_court_134 : decode cX6_court 134 = .ok (.aload_n 0, 1) := by decide +kernel
theorem dX6_court_135 : decode cX6_court 135 = .ok (.getfield 13, 3) := by decide +kernel
theorem dX6_court_138 : decode cX6_court 138 = .ok (.iload_n 1, 1) := by decide +kernel
theorem dX6_court_139 : decode cX6_court 139 = .ok (.iload_n 3, 1) := by decide +kernel
theorem dX6_court_140 : decode cX6_court 140 = .ok (.ifCond .eq 17, 3) := by decide +kernel
theorem dX6_court_143 : decode cX6_court 143 = .ok (.aload_n 0, 1) := by decide +kernel
theorem dX6_court_144 : decode cX6_court 144 = .ok (.getfield 22, 3) := by decide +kernel
theorem dX6_court_147 : decode cX6_court 147 = .ok (.iload_n 2, 1) := by decide +kernel
theorem dX6_court_148 : decode cX6_court 148 = .ok (.iconst 3, 1) := by decide +kernel
theorem dX6_court_149 : decode cX6_court 149 = .ok (.iadd, 1) := by decide +kernel
theorem dX6_court_150 : decode cX6_court 150 = .ok (.iaload, 1) := by decide +kernel
theorem dX6_court_151 : decode cX6_court 151 = .ok (.bipush 48, 2) := by decide +kernel
theorem dX6_court_153 : decode cX6_court 153 = .ok (.isub, 1) := by decide +kernel
theorem dX6_court_154 : decode cX6_court 154 = .ok (.goto 4, 3) := by decide +kernel
theorem dX6_court_157 : decode cX6_court 157 = .ok (.iconst 0, 1) := by decide +kernel
theorem dX6_court_158 : decode cX6_court 158 = .ok (.iastore, 1) := by decide +kernel
theorem dX6_court_159 : decode cX6_court 159 = .ok (.aload_n 0, 1) := by decide +kernel
theorem dX6_court_160 : decode cX6_court 160 = .ok (.getfield 16, 3) := by decide +kernel
theorem dX6_court_163 : decode cX6_court 163 = .ok (.bipush 9, 2) := by decide +kernel
theorem dX6_court_165 : decode cX6_court 165 = .ok (.iload_n 1, 1) := by decide +kernel
theorem dX6_court_166 : decode cX6_court 166 = .ok (.iadd, 1) := by decide +kernel
theorem dX6_court_167 : decode cX6_court 167 = .ok (.iload_n 3, 1) := by decide +kernel
theorem dX6_court_168 : decode cX6_court 168 = .ok (.ifCond .eq 15, 3) := by decide +kernel
theorem dX6_court_171 : decode cX6_court 171 = .ok (.aload_n 0, 1) := by decide +kernel
theorem dX6_court_172 : decode cX6_court 172 = .ok (.iload_n 2, 1) := by decide +kernel
theorem dX6_court_173 : decode cX6_court 173 = .ok (.iconst 4, 1) := by decide +kernel
theorem dX6_court_174 : decode cX6_court 174 = .ok (.iadd, 1) := by decide +kernel
theorem dX6_court_175 : decode cX6_court 175 = .ok (.bipush 48, 2) := by decide +kernel
theorem dX6_court_177 : decode cX6_court 177 = .ok (.invokevirtual 82, 3) := by decide +kernel
theorem dX6_court_180 : decode cX6_court 180 = .ok (.goto 5, 3) := by decide +kernel
theorem dX6_court_183 : decode cX6_court 183 = .ok (.bipush (-9), 2) := by decide +kernel
theorem dX6_court_185 : decode cX6_court 185 = .ok (.iastore, 1) := by decide +kernel
theorem dX6_court_186 : decode cX6_court 186 = .ok (.aload_n 0, 1) := by decide +kernel
theorem dX6_court_187 : decode cX6_court 187 = .ok (.getfield 19, 3) := by decide +kernel
theorem dX6_court_190 : decode cX6_court 190 = .ok (.iload_n 1, 1) := by decide +kernel
theorem dX6_court_191 : decode cX6_court 191 = .ok (.bipush (-9), 2) := by decide +kernel
theorem dX6_court_193 : decode cX6_court 193 = .ok (.iastore, 1) := by decide +kernel
theorem dX6_court_194 : decode cX6_court 194 = .ok (.iinc 1 1, 3) := by decide +kernel
theorem dX6_court_197 : decode cX6_court 197 = .ok (.goto (-163), 3) := by decide +kernel
theorem dX6_court_200 : decode cX6_court 200 = .ok (.aload_n 0, 1) := by decide +kernel
theorem dX6_court_201 : decode cX6_court 201 = .ok (.iconst 0, 1) := by decide +kernel
theorem dX6_court_202 : decode cX6_court 202 = .ok (.putfield 86, 3) := by decide +kernel
theorem dX6_court_205 : decode cX6_court 205 = .ok (.aload_n 0, 1) := by decide +kernel
theorem dX6_court_206 : decode cX6_court 206 = .ok (.getfield 43, 3) := by decide +kernel
theorem dX6_court_209 : decode cX6_court 209 = .ok (.iconst 0, 1) := by decide +kernel
theorem dX6_court_210 : decode cX6_court 210 = .ok (.iconst 0, 1) := by decide +kernel
theorem dX6_court_211 : decode cX6_court 211 = .ok (.bastore, 1) := by decide +kernel
theorem dX6_court_212 : decode cX6_court 212 = .ok (.aload_n 0, 1) := by decide +kernel
theorem dX6_court_213 : decode cX6_court 213 = .ok (.getfield 43, 3) := by decide +kernel
theorem dX6_court_216 : decode cX6_court 216 = .ok (.iconst 1, 1) := by decide +kernel
theorem dX6_court_217 : decode cX6_court 217 = .ok (.iconst 0, 1) := by decide +kernel
theorem dX6_court_218 : decode cX6_court 218 = .ok (.bastore, 1) := by decide +kernel
theorem dX6_court_219 : decode cX6_court 219 = .ok (.aload_n 0, 1) := by decide +kernel
theorem dX6_court_220 : decode cX6_court 220 = .ok (.getfield 79, 3) := by decide +kernel
theorem dX6_court_223 : decode cX6_court 223 = .ok (.ireturn, 1) := by decide +kernel
set_option maxRecDepth 20000 in
theorem ggX6_isClerk_X6_in : GoodIn wsX6_isClerk wsX6_in := goodIn_r _ [5] (by decide +kernel) (by decide +kernel)
set_option maxRecDepth 20000 in
theorem gX6_isClerk_X6_in : GoodIn wsX6_isClerk (va_wsS RX6 52 yX6_in wsX6_in) := goodIn_app (goodIn_of _ (by decide +kernel)) ggX6_isClerk_X6_in
theorem dX6_isClerk_0 : decode cX6_isClerk 0 = .ok (.iload_n 1, 1) := by decide +kernel
theorem dX6_isClerk_1 : decode cX6_isClerk 1 = .ok (.i2l, 1) := by decide +kernel
theorem dX6_isClerk_2 : decode cX6_isClerk 2 = .ok (.lconst 0, 1) := by decide +kernel
theorem dX6_isClerk_3 : decode cX6_isClerk 3 = .ok (.aload_n 0, 1) := by decide +kernel
theorem dX6_isClerk_4 : decode cX6_isClerk 4 = .ok (.getfield 79, 3) := by decide +kernel
theorem dX6_isClerk_7 : decode cX6_isClerk 7 = .ok (.iconst 1, 1) := by decide +kernel
theorem dX6_isClerk_8 : decode cX6_isClerk 8 = .ok (.isub, 1) := by decide +kernel
theorem dX6_isClerk_9 : decode cX6_isClerk 9 = .ok (.i2l, 1) := by decide +kernel
theorem dX6_isClerk_10 : decode cX6_isClerk 10 = .ok (.invokestatic 52, 3) := by decide +kernel
theorem dX6_isClerk_13 : decode cX6_isClerk 13 = .ok (.ireturn, 1) := by decide +kernel
theorem dX6_wordsOf_0 : decode cX6_wordsOf 0 = .ok (.iload_n 0, 1) := by decide +kernel
theorem dX6_wordsOf_1 : decode cX6_wordsOf 1 = .ok (.sipush 4096, 3) := by decide +kernel
theorem dX6_wordsOf_4 : decode cX6_wordsOf 4 = .ok (.idiv, 1) := by decide +kernel
theorem dX6_wordsOf_5 : decode cX6_wordsOf 5 = .ok (.ireturn, 1) := by decide +kernel
set_option maxRecDepth 20000 in
theorem ggX6_wordAt_X6_wordsOf : GoodIn wsX6_wordAt wsX6_wordsOf := goodIn_r _ [4] (by decide +kernel) (by decide +kernel)
set_option maxRecDepth 20000 in
theorem gX6_wordAt_X6_wordsOf : GoodIn wsX6_wordAt (va_wsS RX6 89 yX6_wordsOf wsX6_wordsOf) := goodIn_app (goodIn_of _ (by decide +kernel)) ggX6_wordAt_X6_wordsOf
set_option maxRecDepth 20000 in
theorem ggX6_wordAt_X6_fourTo : GoodIn wsX6_wordAt wsX6_fourTo := goodIn_r _ [7] (by decide +kernel) (by decide +kernel)
set_option maxRecDepth 20000 in
theorem gX6_wordAt_X6_fourTo : GoodIn wsX6_wordAt (va_wsS RX6 93 yX6_fourTo wsX6_fourTo) := goodIn_app (goodIn_of _ (by decide +kernel)) ggX6_wordAt_X6_fourTo
theorem dX6_wordAt_0 : decode cX6_wordAt 0 = .ok (.iload_n 0, 1) := by decide +kernel
theorem dX6_wordAt_1 : decode cX6_wordAt 1 = .ok (.sipush 4096, 3) := by decide +kernel
theorem dX6_wordAt_4 : decode cX6_wordAt 4 = .ok (.irem, 1) := by decide +kernel
theorem dX6_wordAt_5 : decode cX6_wordAt 5 = .ok (.iload_n 0, 1) := by decide +kernel
theorem dX6_wordAt_6 : decode cX6_wordAt 6 = .ok (.invokestatic 89, 3) := by decide +kernel
theorem dX6_wordAt_9 : decode cX6_wordAt 9 = .ok (.iconst 1, 1) := by decide +kernel
theorem dX6_wordAt_10 : decode cX6_wordAt 10 = .ok (.isub, 1) := by decide +kernel
theorem dX6_wordAt_11 : decode cX6_wordAt 11 = .ok (.iload_n 1, 1) := by decide +kernel
theorem dX6_wordAt_12 : decode cX6_wordAt 12 = .ok (.isub, 1) := by decide +kernel
theorem dX6_wordAt_13 : decode cX6_wordAt 13 = .ok (.invokestatic 93, 3) := by decide +kernel
theorem dX6_wordAt_16 : decode cX6_wordAt 16 = .ok (.idiv, 1) := by decide +kernel
theorem dX6_wordAt_17 : decode cX6_wordAt 17 = .ok (.iconst 4, 1) := by decide +kernel
theorem dX6_wordAt_18 : decode cX6_wordAt 18 = .ok (.irem, 1) := by decide +kernel
theorem dX6_wordAt_19 : decode cX6_wordAt 19 = .ok (.ireturn, 1) := by decide +kernel
theorem dX6_withWord_0 : decode cX6_withWord 0 = .ok (.iload_n 0, 1) := by decide +kernel
theorem dX6_withWord_1 : decode cX6_withWord 1 = .ok (.sipush 4096, 3) := by decide +kernel
theorem dX6_withWord_4 : decode cX6_withWord 4 = .ok (.idiv, 1) := by decide +kernel
theorem dX6_withWord_5 : decode cX6_withWord 5 = .ok (.sipush 4096, 3) := by decide +kernel
theorem dX6_withWord_8 : decode cX6_withWord 8 = .ok (.imul, 1) := by decide +kernel
theorem dX6_withWord_9 : decode cX6_withWord 9 = .ok (.sipush 4096, 3) := by decide +kernel
theorem dX6_withWord_12 : decode cX6_withWord 12 = .ok (.iadd, 1) := by decide +kernel
theorem dX6_withWord_13 : decode cX6_withWord 13 = .ok (.iload_n 0, 1) := by decide +kernel
theorem dX6_withWord_14 : decode cX6_withWord 14 = .ok (.sipush 4096, 3) := by decide +kernel
theorem dX6_withWord_17 : decode cX6_withWord 17 = .ok (.irem, 1) := by decide +kernel
theorem dX6_withWord_18 : decode cX6_withWord 18 = .ok (.iconst 4, 1) := by decide +kernel
theorem dX6_withWord_19 : decode cX6_withWord 19 = .ok (.imul, 1) := by decide +kernel
theorem dX6_withWord_20 : decode cX6_withWord 20 = .ok (.iadd, 1) := by decide +kernel
theorem dX6_withWord_21 : decode cX6_withWord 21 = .ok (.iload_n 1, 1) := by decide +kernel
theorem dX6_withWord_22 : decode cX6_withWord 22 = .ok (.iadd, 1) := by decide +kernel
theorem dX6_withWord_23 : decode cX6_withWord 23 = .ok (.ireturn, 1) := by decide +kernel
set_option maxRecDepth 20000 in
theorem ggX6_written_X6_wordsOf : GoodIn wsX6_written wsX6_wordsOf := goodIn_r _ [4] (by decide +kernel) (by decide +kernel)
set_option maxRecDepth 20000 in
theorem gX6_written_X6_wordsOf : GoodIn wsX6_written (va_wsS RX6 89 yX6_wordsOf wsX6_wordsOf) := goodIn_app (goodIn_of _ (by decide +kernel)) ggX6_written_X6_wordsOf
set_option maxRecDepth 20000 in
theorem ggX6_written_X6_wordAt : GoodIn wsX6_written wsX6_wordAt := goodIn_r _ [7, 1, 2, 3, 4, 8, 9, 10] (by decide +kernel) (by decide +kernel)
set_option maxRecDepth 20000 in
theorem gX6_written_X6_wordAt : GoodIn wsX6_written (va_wsS RX6 96 yX6_wordAt wsX6_wordAt) := goodIn_app (goodIn_of _ (by decide +kernel)) ggX6_written_X6_wordAt
set_option maxRecDepth 20000 in
theorem ggX6_written_X6_withWord : GoodIn wsX6_written wsX6_withWord := goodIn_r _ [13] (by decide +kernel) (by decide +kernel)
set_option maxRecDepth 20000 in
theorem gX6_written_X6_withWord : GoodIn wsX6_written (va_wsS RX6 99 yX6_withWord wsX6_withWord) := goodIn_app (goodIn_of _ (by decide +kernel)) ggX6_written_X6_withWord
theorem dX6_written_0 : decode cX6_written 0 = .ok (.iconst 0, 1) := by decide +kernel
theorem dX6_written_1 : decode cX6_written 1 = .ok (.istore 5, 2) := by decide +kernel
theorem dX6_written_3 : decode cX6_written 3 = .ok (.iconst 0, 1) := by decide +kernel
theorem dX6_written_4 : decode cX6_written 4 = .ok (.istore 6, 2) := by decide +kernel
theorem dX6_written_6 : decode cX6_written 6 = .ok (.iload 6, 2) := by decide +kernel
theorem dX6_written_8 : decode cX6_written 8 = .ok (.iload_n 0, 1) := by decide +kernel
theorem dX6_written_9 : decode cX6_written 9 = .ok (.invokestatic 89, 3) := by decide +kernel
theorem dX6_written_12 : decode cX6_written 12 = .ok (.if_icmp .ge 72, 3) := by decide +kernel
theorem dX6_written_15 : decode cX6_written 15 = .ok (.iload_n 0, 1) := by decide +kernel
theorem dX6_written_16 : decode cX6_written 16 = .ok (.iload 6, 2) := by decide +kernel
theorem dX6_written_18 : decode cX6_written 18 = .ok (.invokestatic 96, 3) := by decide +kernel
theorem dX6_written_21 : decode cX6_written 21 = .ok (.istore 7, 2) := by decide +kernel
theorem dX6_written_23 : decode cX6_written 23 = .ok (.iload 6, 2) := by decide +kernel
theorem dX6_written_25 : decode cX6_written 25 = .ok (.iload 4, 2) := by decide +kernel
theorem dX6_written_27 : decode cX6_written 27 = .ok (.if_icmp .le 18, 3) := by decide +kernel
theorem dX6_written_30 : decode cX6_written 30 = .ok (.iload 6, 2) := by decide +kernel
theorem dX6_written_32 : decode cX6_written 32 = .ok (.iload 4, 2) := by decide +kernel
theorem dX6_written_34 : decode cX6_written 34 = .ok (.isub, 1) := by decide +kernel
theorem dX6_written_35 : decode cX6_written 35 = .ok (.iconst 2, 1) := by decide +kernel
theorem dX6_written_36 : decode cX6_written 36 = .ok (.irem, 1) := by decide +kernel
theorem dX6_written_37 : decode cX6_written 37 = .ok (.iconst 1, 1) := by decide +kernel
theorem dX6_written_38 : decode cX6_written 38 = .ok (.if_icmp .ne 7, 3) := by decide +kernel
theorem dX6_written_41 : decode cX6_written 41 = .ok (.iconst 1, 1) := by decide +kernel
theorem dX6_written_42 : decode cX6_written 42 = .ok (.goto 4, 3) := by decide +kernel
theorem dX6_written_45 : decode cX6_written 45 = .ok (.iconst 0, 1) := by decide +kernel
theorem dX6_written_46 : decode cX6_written 46 = .ok (.istore 8, 2) := by decide +kernel
theorem dX6_written_48 : decode cX6_written 48 = .ok (.iload 8, 2) := by decide +kernel
theorem dX6_written_50 : decode cX6_written 50 = .ok (.ifCond .ne 28, 3) := by decide +kernel
theorem dX6_written_53 : decode cX6_written 53 = .ok (.iload 7, 2) := by decide +kernel
theorem dX6_written_55 : decode cX6_written 55 = .ok (.iload_n 1, 1) := by decide +kernel
theorem dX6_written_56 : decode cX6_written 56 = .ok (.if_icmp .eq 22, 3) := by decide +kernel
theorem dX6_written_59 : decode cX6_written 59 = .ok (.iload 5, 2) := by decide +kernel
theorem dX6_written_61 : decode cX6_written 61 = .ok (.iload 7, 2) := by decide +kernel
theorem dX6_written_63 : decode cX6_written 63 = .ok (.iload_n 2, 1) := by decide +kernel
theorem dX6_written_64 : decode cX6_written 64 = .ok (.if_icmp .ne 7, 3) := by decide +kernel
theorem dX6_written_67 : decode cX6_written 67 = .ok (.iload_n 3, 1) := by decide +kernel
theorem dX6_written_68 : decode cX6_written 68 = .ok (.goto 5, 3) := by decide +kernel
theorem dX6_written_71 : decode cX6_written 71 = .ok (.iload 7, 2) := by decide +kernel
theorem dX6_written_73 : decode cX6_written 73 = .ok (.invokestatic 99, 3) := by decide +kernel
theorem dX6_written_76 : decode cX6_written 76 = .ok (.istore 5, 2) := by decide +kernel
theorem dX6_written_78 : decode cX6_written 78 = .ok (.iinc 6 1, 3) := by decide +kernel
theorem dX6_written_81 : decode cX6_written 81 = .ok (.goto (-75), 3) := by decide +kernel
theorem dX6_written_84 : decode cX6_written 84 = .ok (.iload 5, 2) := by decide +kernel
theorem dX6_written_86 : decode cX6_written 86 = .ok (.ireturn, 1) := by decide +kernel
set_option maxRecDepth 20000 in
theorem ggX6_layPages_X6_written : GoodIn wsX6_layPages wsX6_written := goodIn_r _ [9, 10, 11, 8, 12, 13, 14, 15, 16, 17, 18, 19, 20, 21] (by decide +kernel) (by decide +kernel)
set_option maxRecDepth 20000 in
theorem gX6_layPages_X6_written : GoodIn wsX6_layPages (va_wsS RX6 102 yX6_written wsX6_written) := goodIn_app (goodIn_of _ (by decide +kernel)) ggX6_layPages_X6_written
theorem dX6_layPages_0 : decode cX6_layPages 0 = .ok (.iconst 0, 1) := by decide +kernel
theorem dX6_layPages_1 : decode cX6_layPages 1 = .ok (.istore_n 3, 1) := by decide +kernel
theorem dX6_layPages_2 : decode cX6_layPages 2 = .ok (.iload_n 3, 1) := by decide +kernel
theorem dX6_layPages_3 : decode cX6_layPages 3 = .ok (.aload_n 0, 1) := by decide +kernel
theorem dX6_layPages_4 : decode cX6_layPages 4 = .ok (.getfield 79, 3) := by decide +kernel
theorem dX6_layPages_7 : decode cX6_layPages 7 = .ok (.if_icmp .ge 92, 3) := by decide +kernel
theorem dX6_layPages_10 : decode cX6_layPages 10 = .ok (.aload_n 0, 1) := by decide +kernel
theorem dX6_layPages_11 : decode cX6_layPages 11 = .ok (.getfield 16, 3) := by decide +kernel
theorem dX6_layPages_14 : decode cX6_layPages 14 = .ok (.bipush 9, 2) := by decide +kernel
theorem dX6_layPages_16 : decode cX6_layPages 16 = .ok (.iload_n 3, 1) := by decide +kernel
theorem dX6_layPages_17 : decode cX6_layPages 17 = .ok (.iadd, 1) := by decide +kernel
theorem dX6_layPages_18 : decode cX6_layPages 18 = .ok (.iaload, 1) := by decide +kernel
theorem dX6_layPages_19 : decode cX6_layPages 19 = .ok (.bipush (-9), 2) := by decide +kernel
theorem dX6_layPages_21 : decode cX6_layPages 21 = .ok (.if_icmp .ne 7, 3) := by decide +kernel
theorem dX6_layPages_24 : decode cX6_layPages 24 = .ok (.iload_n 1, 1) := by decide +kernel
theorem dX6_layPages_25 : decode cX6_layPages 25 = .ok (.goto 17, 3) := by decide +kernel
theorem dX6_layPages_28 : decode cX6_layPages 28 = .ok (.aload_n 0, 1) := by decide +kernel
theorem dX6_layPages_29 : decode cX6_layPages 29 = .ok (.getfield 25, 3) := by decide +kernel
theorem dX6_layPages_32 : decode cX6_layPages 32 = .ok (.aload_n 0, 1) := by decide +kernel
theorem dX6_layPages_33 : decode cX6_layPages 33 = .ok (.getfield 16, 3) := by decide +kernel
theorem dX6_layPages_36 : decode cX6_layPages 36 = .ok (.bipush 9, 2) := by decide +kernel
theorem dX6_layPages_38 : decode cX6_layPages 38 = .ok (.iload_n 3, 1) := by decide +kernel
theorem dX6_layPages_39 : decode cX6_layPages 39 = .ok (.iadd, 1) := by decide +kernel
theorem dX6_layPages_40 : decode cX6_layPages 40 = .ok (.iaload, 1) := by decide +kernel
theorem dX6_layPages_41 : decode cX6_layPages 41 = .ok (.iaload, 1) := by decide +kernel
theorem dX6_layPages_42 : decode cX6_layPages 42 = .ok (.istore 4, 2) := by decide +kernel
theorem dX6_layPages_44 : decode cX6_layPages 44 = .ok (.aload_n 0, 1) := by decide +kernel
theorem dX6_layPages_45 : decode cX6_layPages 45 = .ok (.getfield 25, 3) := by decide +kernel
theorem dX6_layPages_48 : decode cX6_layPages 48 = .ok (.iload_n 3, 1) := by decide +kernel
theorem dX6_layPages_49 : decode cX6_layPages 49 = .ok (.iload 4, 2) := by decide +kernel
theorem dX6_layPages_51 : decode cX6_layPages 51 = .ok (.aload_n 0, 1) := by decide +kernel
theorem dX6_layPages_52 : decode cX6_layPages 52 = .ok (.getfield 7, 3) := by decide +kernel
theorem dX6_layPages_55 : decode cX6_layPages 55 = .ok (.iload_n 3, 1) := by decide +kernel
theorem dX6_layPages_56 : decode cX6_layPages 56 = .ok (.iaload, 1) := by decide +kernel
theorem dX6_layPages_57 : decode cX6_layPages 57 = .ok (.iload_n 3, 1) := by decide +kernel
theorem dX6_layPages_58 : decode cX6_layPages 58 = .ok (.iload_n 2, 1) := by decide +kernel
theorem dX6_layPages_59 : decode cX6_layPages 59 = .ok (.if_icmp .ne 8, 3) := by decide +kernel
theorem dX6_layPages_62 : decode cX6_layPages 62 = .ok (.bipush (-9), 2) := by decide +kernel
theorem dX6_layPages_64 : decode cX6_layPages 64 = .ok (.goto 11, 3) := by decide +kernel
theorem dX6_layPages_67 : decode cX6_layPages 67 = .ok (.aload_n 0, 1) := by decide +kernel
theorem dX6_layPages_68 : decode cX6_layPages 68 = .ok (.getfield 16, 3) := by decide +kernel
theorem dX6_layPages_71 : decode cX6_layPages 71 = .ok (.iconst 1, 1) := by decide +kernel
theorem dX6_layPages_72 : decode cX6_layPages 72 = .ok (.iload_n 3, 1) := by decide +kernel
theorem dX6_layPages_73 : decode cX6_layPages 73 = .ok (.iadd, 1) := by decide +kernel
theorem dX6_layPages_74 : decode cX6_layPages 74 = .ok (.iaload, 1) := by decide +kernel
theorem dX6_layPages_75 : decode cX6_layPages 75 = .ok (.aload_n 0, 1) := by decide +kernel
theorem dX6_layPages_76 : decode cX6_layPages 76 = .ok (.getfield 16, 3) := by decide +kernel
theorem dX6_layPages_79 : decode cX6_layPages 79 = .ok (.iconst 5, 1) := by decide +kernel
theorem dX6_layPages_80 : decode cX6_layPages 80 = .ok (.iload_n 3, 1) := by decide +kernel
theorem dX6_layPages_81 : decode cX6_layPages 81 = .ok (.iadd, 1) := by decide +kernel
theorem dX6_layPages_82 : decode cX6_layPages 82 = .ok (.iaload, 1) := by decide +kernel
theorem dX6_layPages_83 : decode cX6_layPages 83 = .ok (.aload_n 0, 1) := by decide +kernel
theorem dX6_layPages_84 : decode cX6_layPages 84 = .ok (.getfield 13, 3) := by decide +kernel
theorem dX6_layPages_87 : decode cX6_layPages 87 = .ok (.iload_n 3, 1) := by decide +kernel
theorem dX6_layPages_88 : decode cX6_layPages 88 = .ok (.iaload, 1) := by decide +kernel
theorem dX6_layPages_89 : decode cX6_layPages 89 = .ok (.invokestatic 102, 3) := by decide +kernel
theorem dX6_layPages_92 : decode cX6_layPages 92 = .ok (.iastore, 1) := by decide +kernel
theorem dX6_layPages_93 : decode cX6_layPages 93 = .ok (.iinc 3 1, 3) := by decide +kernel
theorem dX6_layPages_96 : decode cX6_layPages 96 = .ok (.goto (-94), 3) := by decide +kernel
theorem dX6_layPages_99 : decode cX6_layPages 99 = .ok (.return_, 1) := by decide +kernel
set_option maxRecDepth 20000 in
theorem ggX6_clerk_X6_isClerk : GoodIn wsX6_clerk wsX6_isClerk := goodIn_r _ [10, 11, 12, 13, 9, 14, 34, 35, 36, 37, 38, 39, 40, 41, 42, 43, 44, 45, 46, 47, 48, 49, 50, 51, 52] (by decide +kernel) (by decide +kernel)
set_option maxRecDepth 20000 in
theorem gX6_clerk_X6_isClerk : GoodIn wsX6_clerk (wsV RX6 106 RX6 yX6_isClerk wsX6_isClerk) := goodIn_app (goodIn_of _ (by decide +kernel)) ggX6_clerk_X6_isClerk
set_option maxRecDepth 20000 in
theorem ggX6_clerk_X6_layPages : GoodIn wsX6_clerk wsX6_layPages := goodIn_r _ [18, 11, 1, 4, 2, 3, 19, 20, 9, 21, 22, 23, 24, 25, 26, 27, 28, 29, 30, 31, 32, 33, 34, 35, 36, 37, 38, 39, 40, 41, 42, 43, 44, 45, 46, 47, 48, 49, 50, 51, 52] (by decide +kernel) (by decide +kernel)
set_option maxRecDepth 20000 in
theorem gX6_clerk_X6_layPages : GoodIn wsX6_clerk (wsV RX6 109 RX6 yX6_layPages wsX6_layPages) := goodIn_app (goodIn_of _ (by decide +kernel)) ggX6_clerk_X6_layPages
set_option maxRecDepth 20000 in
theorem ggX6_clerk_X6_wordsOf : GoodIn wsX6_clerk wsX6_wordsOf := goodIn_r _ [24] (by decide +kernel) (by decide +kernel)
set_option maxRecDepth 20000 in
theorem gX6_clerk_X6_wordsOf : GoodIn wsX6_clerk (va_wsS RX6 89 yX6_wordsOf wsX6_wordsOf) := goodIn_app (goodIn_of _ (by decide +kernel)) ggX6_clerk_X6_wordsOf
theorem dX6_clerk_0 : decode cX6_clerk 0 = .ok (.aload_n 0, 1) := by decide +kernel
theorem dX6_clerk_1 : decode cX6_clerk 1 = .ok (.iload_n 1, 1) := by decide +kernel
theorem dX6_clerk_2 : decode cX6_clerk 2 = .ok (.invokevirtual 106, 3) := by decide +kernel
theorem dX6_clerk_5 : decode cX6_clerk 5 = .ok (.ifCond .ne 5, 3) := by decide +kernel
theorem dX6_clerk_8 : decode cX6_clerk 8 = .ok (.iconst (-1), 1) := by decide +kernel
theorem dX6_clerk_9 : decode cX6_clerk 9 = .ok (.ireturn, 1) := by decide +kernel
theorem dX6_clerk_10 : decode cX6_clerk 10 = .ok (.aload_n 0, 1) := by decide +kernel
theorem dX6_clerk_11 : decode cX6_clerk 11 = .ok (.aload_n 0, 1) := by decide +kernel
theorem dX6_clerk_12 : decode cX6_clerk 12 = .ok (.getfield 16, 3) := by decide +kernel
theorem dX6_clerk_15 : decode cX6_clerk 15 = .ok (.iconst 0, 1) := by decide +kernel
theorem dX6_clerk_16 : decode cX6_clerk 16 = .ok (.iaload, 1) := by decide +kernel
theorem dX6_clerk_17 : decode cX6_clerk 17 = .ok (.bipush (-9), 2) := by decide +kernel
theorem dX6_clerk_19 : decode cX6_clerk 19 = .ok (.invokevirtual 109, 3) := by decide +kernel
theorem dX6_clerk_22 : decode cX6_clerk 22 = .ok (.iload_n 2, 1) := by decide +kernel
theorem dX6_clerk_23 : decode cX6_clerk 23 = .ok (.tableswitch 119 0 6 #[41, 48, 57, 66, 73, 83, 93], 41) := by decide +kernel
theorem dX6_clerk_64 : decode cX6_clerk 64 = .ok (.aload_n 0, 1) := by decide +kernel
theorem dX6_clerk_65 : decode cX6_clerk 65 = .ok (.getfield 7, 3) := by decide +kernel
theorem dX6_clerk_68 : decode cX6_clerk 68 = .ok (.iload_n 1, 1) := by decide +kernel
theorem dX6_clerk_69 : decode cX6_clerk 69 = .ok (.iaload, 1) := by decide +kernel
theorem dX6_clerk_70 : decode cX6_clerk 70 = .ok (.ireturn, 1) := by decide +kernel
theorem dX6_clerk_71 : decode cX6_clerk 71 = .ok (.aload_n 0, 1) := by decide +kernel
theorem dX6_clerk_72 : decode cX6_clerk 72 = .ok (.getfield 16, 3) := by decide +kernel
theorem dX6_clerk_75 : decode cX6_clerk 75 = .ok (.iconst 1, 1) := by decide +kernel
theorem dX6_clerk_76 : decode cX6_clerk 76 = .ok (.iload_n 1, 1) := by decide +kernel
theorem dX6_clerk_77 : decode cX6_clerk 77 = .ok (.iadd, 1) := by decide +kernel
theorem dX6_clerk_78 : decode cX6_clerk 78 = .ok (.iaload, 1) := by decide +kernel
theorem dX6_clerk_79 : decode cX6_clerk 79 = .ok (.ireturn, 1) := by decide +kernel
theorem dX6_clerk_80 : decode cX6_clerk 80 = .ok (.aload_n 0, 1) := by decide +kernel
theorem dX6_clerk_81 : decode cX6_clerk 81 = .ok (.getfield 16, 3) := by decide +kernel
theorem dX6_clerk_84 : decode cX6_clerk 84 = .ok (.iconst 5, 1) := by decide +kernel
theorem dX6_clerk_85 : decode cX6_clerk 85 = .ok (.iload_n 1, 1) := by decide +kernel
theorem dX6_clerk_86 : decode cX6_clerk 86 = .ok (.iadd, 1) := by decide +kernel
theorem dX6_clerk_87 : decode cX6_clerk 87 = .ok (.iaload, 1) := by decide +kernel
theorem dX6_clerk_88 : decode cX6_clerk 88 = .ok (.ireturn, 1) := by decide +kernel
theorem dX6_clerk_89 : decode cX6_clerk 89 = .ok (.aload_n 0, 1) := by decide +kernel
theorem dX6_clerk_90 : decode cX6_clerk 90 = .ok (.getfield 13, 3) := by decide +kernel
theorem dX6_clerk_93 : decode cX6_clerk 93 = .ok (.iload_n 1, 1) := by decide +kernel
theorem dX6_clerk_94 : decode cX6_clerk 94 = .ok (.iaload, 1) := by decide +kernel
theorem dX6_clerk_95 : decode cX6_clerk 95 = .ok (.ireturn, 1) := by decide +kernel
theorem dX6_clerk_96 : decode cX6_clerk 96 = .ok (.aload_n 0, 1) := by decide +kernel
theorem dX6_clerk_97 : decode cX6_clerk 97 = .ok (.getfield 16, 3) := by decide +kernel
theorem dX6_clerk_100 : decode cX6_clerk 100 = .ok (.bipush 9, 2) := by decide +kernel
theorem dX6_clerk_102 : decode cX6_clerk 102 = .ok (.iload_n 1, 1) := by decide +kernel
theorem dX6_clerk_103 : decode cX6_clerk 103 = .ok (.iadd, 1) := by decide +kernel
theorem dX6_clerk_104 : decode cX6_clerk 104 = .ok (.iaload, 1) := by decide +kernel
theorem dX6_clerk_105 : decode cX6_clerk 105 = .ok (.ireturn, 1) := by decide +kernel
theorem dX6_clerk_106 : decode cX6_clerk 106 = .ok (.aload_n 0, 1) := by decide +kernel
theorem dX6_clerk_107 : decode cX6_clerk 107 = .ok (.getfield 25, 3) := by decide +kernel
theorem dX6_clerk_110 : decode cX6_clerk 110 = .ok (.iload_n 1, 1) := by decide +kernel
theorem dX6_clerk_111 : decode cX6_clerk 111 = .ok (.iaload, 1) := by decide +kernel
theorem dX6_clerk_112 : decode cX6_clerk 112 = .ok (.invokestatic 89, 3) := by decide +kernel
theorem dX6_clerk_115 : decode cX6_clerk 115 = .ok (.ireturn, 1) := by decide +kernel
theorem dX6_clerk_116 : decode cX6_clerk 116 = .ok (.aload_n 0, 1) := by decide +kernel
theorem dX6_clerk_117 : decode cX6_clerk 117 = .ok (.getfield 19, 3) := by decide +kernel
theorem dX6_clerk_120 : decode cX6_clerk 120 = .ok (.iload_n 1, 1) := by decide +kernel
theorem dX6_clerk_121 : decode cX6_clerk 121 = .ok (.iaload, 1) := by decide +kernel
theorem dX6_clerk_122 : decode cX6_clerk 122 = .ok (.bipush (-9), 2) := by decide +kernel
theorem dX6_clerk_124 : decode cX6_clerk 124 = .ok (.if_icmp .ne 8, 3) := by decide +kernel
theorem dX6_clerk_127 : decode cX6_clerk 127 = .ok (.bipush (-9), 2) := by decide +kernel
theorem dX6_clerk_129 : decode cX6_clerk 129 = .ok (.goto 12, 3) := by decide +kernel
theorem dX6_clerk_132 : decode cX6_clerk 132 = .ok (.aload_n 0, 1) := by decide +kernel
theorem dX6_clerk_133 : decode cX6_clerk 133 = .ok (.getfield 19, 3) := by decide +kernel
theorem dX6_clerk_136 : decode cX6_clerk 136 = .ok (.iload_n 1, 1) := by decide +kernel
theorem dX6_clerk_137 : decode cX6_clerk 137 = .ok (.iaload, 1) := by decide +kernel
theorem dX6_clerk_138 : decode cX6_clerk 138 = .ok (.invokestatic 89, 3) := by decide +kernel
theorem dX6_clerk_141 : decode cX6_clerk 141 = .ok (.ireturn, 1) := by decide +kernel
theorem dX6_clerk_142 : decode cX6_clerk 142 = .ok (.bipush (-2), 2) := by decide +kernel
theorem dX6_clerk_144 : decode cX6_clerk 144 = .ok (.ireturn, 1) := by decide +kernel
set_option maxRecDepth 20000 in
theorem ggX6_page_X6_isClerk : GoodIn wsX6_page wsX6_isClerk := goodIn_r _ [7, 8, 9, 10, 6, 11, 33, 34, 35, 36, 37, 38, 39, 40, 41, 42, 43, 44, 45, 46, 47, 48, 49, 50, 51] (by decide +kernel) (by decide +kernel)
set_option maxRecDepth 20000 in
theorem gX6_page_X6_isClerk : GoodIn wsX6_page (wsV RX6 106 RX6 yX6_isClerk wsX6_isClerk) := goodIn_app (goodIn_of _ (by decide +kernel)) ggX6_page_X6_isClerk
set_option maxRecDepth 20000 in
theorem ggX6_page_X6_layPages : GoodIn wsX6_page wsX6_layPages := goodIn_r _ [15, 8, 1, 2, 16, 17, 18, 19, 6, 20, 21, 22, 23, 24, 25, 26, 27, 28, 29, 30, 31, 32, 33, 34, 35, 36, 37, 38, 39, 40, 41, 42, 43, 44, 45, 46, 47, 48, 49, 50, 51] (by decide +kernel) (by decide +kernel)
set_option maxRecDepth 20000 in
theorem gX6_page_X6_layPages : GoodIn wsX6_page (wsV RX6 109 RX6 yX6_layPages wsX6_layPages) := goodIn_app (goodIn_of _ (by decide +kernel)) ggX6_page_X6_layPages
set_option maxRecDepth 20000 in
theorem ggX6_page_X6_wordsOf : GoodIn wsX6_page wsX6_wordsOf := goodIn_r _ [23] (by decide +kernel) (by decide +kernel)
set_option maxRecDepth 20000 in
theorem gX6_page_X6_wordsOf : GoodIn wsX6_page (va_wsS RX6 89 yX6_wordsOf wsX6_wordsOf) := goodIn_app (goodIn_of _ (by decide +kernel)) ggX6_page_X6_wordsOf
set_option maxRecDepth 20000 in
theorem ggX6_page_X6_in : GoodIn wsX6_page wsX6_in := goodIn_r _ [11] (by decide +kernel) (by decide +kernel)
set_option maxRecDepth 20000 in
theorem gX6_page_X6_in : GoodIn wsX6_page (va_wsS RX6 52 yX6_in wsX6_in) := goodIn_app (goodIn_of _ (by decide +kernel)) ggX6_page_X6_in
set_option maxRecDepth 20000 in
theorem ggX6_page_X6_wordAt : GoodIn wsX6_page wsX6_wordAt := goodIn_r _ [26, 21, 22, 6, 23, 27, 28, 29] (by decide +kernel) (by decide +kernel)
set_option maxRecDepth 20000 in
theorem gX6_page_X6_wordAt : GoodIn wsX6_page (va_wsS RX6 96 yX6_wordAt wsX6_wordAt) := goodIn_app (goodIn_of _ (by decide +kernel)) ggX6_page_X6_wordAt
theorem dX6_page_0 : decode cX6_page 0 = .ok (.aload_n 0, 1) := by decide +kernel
theorem dX6_page_1 : decode cX6_page 1 = .ok (.iload_n 1, 1) := by decide +kernel
theorem dX6_page_2 : decode cX6_page 2 = .ok (.invokevirtual 106, 3) := by decide +kernel
theorem dX6_page_5 : decode cX6_page 5 = .ok (.ifCond .ne 5, 3) := by decide +kernel
theorem dX6_page_8 : decode cX6_page 8 = .ok (.iconst (-1), 1) := by decide +kernel
theorem dX6_page_9 : decode cX6_page 9 = .ok (.ireturn, 1) := by decide +kernel
theorem dX6_page_10 : decode cX6_page 10 = .ok (.aload_n 0, 1) := by decide +kernel
theorem dX6_page_11 : decode cX6_page 11 = .ok (.aload_n 0, 1) := by decide +kernel
theorem dX6_page_12 : decode cX6_page 12 = .ok (.getfield 16, 3) := by decide +kernel
theorem dX6_page_15 : decode cX6_page 15 = .ok (.iconst 0, 1) := by decide +kernel
theorem dX6_page_16 : decode cX6_page 16 = .ok (.iaload, 1) := by decide +kernel
theorem dX6_page_17 : decode cX6_page 17 = .ok (.bipush (-9), 2) := by decide +kernel
theorem dX6_page_19 : decode cX6_page 19 = .ok (.invokevirtual 109, 3) := by decide +kernel
theorem dX6_page_22 : decode cX6_page 22 = .ok (.iload_n 2, 1) := by decide +kernel
theorem dX6_page_23 : decode cX6_page 23 = .ok (.i2l, 1) := by decide +kernel
theorem dX6_page_24 : decode cX6_page 24 = .ok (.lconst 0, 1) := by decide +kernel
theorem dX6_page_25 : decode cX6_page 25 = .ok (.aload_n 0, 1) := by decide +kernel
theorem dX6_page_26 : decode cX6_page 26 = .ok (.getfield 25, 3) := by decide +kernel
theorem dX6_page_29 : decode cX6_page 29 = .ok (.iload_n 1, 1) := by decide +kernel
theorem dX6_page_30 : decode cX6_page 30 = .ok (.iaload, 1) := by decide +kernel
theorem dX6_page_31 : decode cX6_page 31 = .ok (.invokestatic 89, 3) := by decide +kernel
theorem dX6_page_34 : decode cX6_page 34 = .ok (.iconst 1, 1) := by decide +kernel
theorem dX6_page_35 : decode cX6_page 35 = .ok (.isub, 1) := by decide +kernel
theorem dX6_page_36 : decode cX6_page 36 = .ok (.i2l, 1) := by decide +kernel
theorem dX6_page_37 : decode cX6_page 37 = .ok (.invokestatic 52, 3) := by decide +kernel
theorem dX6_page_40 : decode cX6_page 40 = .ok (.ifCond .eq 16, 3) := by decide +kernel
theorem dX6_page_43 : decode cX6_page 43 = .ok (.aload_n 0, 1) := by decide +kernel
theorem dX6_page_44 : decode cX6_page 44 = .ok (.getfield 25, 3) := by decide +kernel
theorem dX6_page_47 : decode cX6_page 47 = .ok (.iload_n 1, 1) := by decide +kernel
theorem dX6_page_48 : decode cX6_page 48 = .ok (.iaload, 1) := by decide +kernel
theorem dX6_page_49 : decode cX6_page 49 = .ok (.iload_n 2, 1) := by decide +kernel
theorem dX6_page_50 : decode cX6_page 50 = .ok (.invokestatic 96, 3) := by decide +kernel
theorem dX6_page_53 : decode cX6_page 53 = .ok (.goto 5, 3) := by decide +kernel
theorem dX6_page_56 : decode cX6_page 56 = .ok (.bipush (-9), 2) := by decide +kernel
theorem dX6_page_58 : decode cX6_page 58 = .ok (.ireturn, 1) := by decide +kernel
set_option maxRecDepth 20000 in
theorem ggX6_trial_X6_wordsOf : GoodIn wsX6_trial wsX6_wordsOf := goodIn_r _ [5] (by decide +kernel) (by decide +kernel)
set_option maxRecDepth 20000 in
theorem gX6_trial_X6_wordsOf : GoodIn wsX6_trial (va_wsS RX6 89 yX6_wordsOf wsX6_wordsOf) := goodIn_app (goodIn_of _ (by decide +kernel)) ggX6_trial_X6_wordsOf
set_option maxRecDepth 20000 in
theorem ggX6_trial_X6_in : GoodIn wsX6_trial wsX6_in := goodIn_r _ [8] (by decide +kernel) (by decide +kernel)
set_option maxRecDepth 20000 in
theorem gX6_trial_X6_in : GoodIn wsX6_trial (va_wsS RX6 52 yX6_in wsX6_in) := goodIn_app (goodIn_of _ (by decide +kernel)) ggX6_trial_X6_in
set_option maxRecDepth 20000 in
theorem ggX6_trial_X6_wordAt : GoodIn wsX6_trial wsX6_wordAt := goodIn_r _ [11, 2, 3, 4, 5, 12, 13, 14] (by decide +kernel) (by decide +kernel)
set_option maxRecDepth 20000 in
theorem gX6_trial_X6_wordAt : GoodIn wsX6_trial (va_wsS RX6 96 yX6_wordAt wsX6_wordAt) := goodIn_app (goodIn_of _ (by decide +kernel)) ggX6_trial_X6_wordAt
theorem dX6_trial_0 : decode cX6_trial 0 = .ok (.iload_n 1, 1) := by decide +kernel
theorem dX6_trial_1 : decode cX6_trial 1 = .ok (.i2l, 1) := by decide +kernel
theorem dX6_trial_2 : decode cX6_trial 2 = .ok (.lconst 0, 1) := by decide +kernel
theorem dX6_trial_3 : decode cX6_trial 3 = .ok (.aload_n 0, 1) := by decide +kernel
theorem dX6_trial_4 : decode cX6_trial 4 = .ok (.getfield 16, 3) := by decide +kernel
theorem dX6_trial_7 : decode cX6_trial 7 = .ok (.iconst 0, 1) := by decide +kernel
theorem dX6_trial_8 : decode cX6_trial 8 = .ok (.iaload, 1) := by decide +kernel
theorem dX6_trial_9 : decode cX6_trial 9 = .ok (.invokestatic 89, 3) := by decide +kernel
theorem dX6_trial_12 : decode cX6_trial 12 = .ok (.iconst 1, 1) := by decide +kernel
theorem dX6_trial_13 : decode cX6_trial 13 = .ok (.isub, 1) := by decide +kernel
theorem dX6_trial_14 : decode cX6_trial 14 = .ok (.i2l, 1) := by decide +kernel
theorem dX6_trial_15 : decode cX6_trial 15 = .ok (.invokestatic 52, 3) := by decide +kernel
theorem dX6_trial_18 : decode cX6_trial 18 = .ok (.ifCond .eq 16, 3) := by decide +kernel
theorem dX6_trial_21 : decode cX6_trial 21 = .ok (.aload_n 0, 1) := by decide +kernel
theorem dX6_trial_22 : decode cX6_trial 22 = .ok (.getfield 16, 3) := by decide +kernel
theorem dX6_trial_25 : decode cX6_trial 25 = .ok (.iconst 0, 1) := by decide +kernel
theorem dX6_trial_26 : decode cX6_trial 26 = .ok (.iaload, 1) := by decide +kernel
theorem dX6_trial_27 : decode cX6_trial 27 = .ok (.iload_n 1, 1) := by decide +kernel
theorem dX6_trial_28 : decode cX6_trial 28 = .ok (.invokestatic 96, 3) := by decide +kernel
theorem dX6_trial_31 : decode cX6_trial 31 = .ok (.goto 5, 3) := by decide +kernel
theorem dX6_trial_34 : decode cX6_trial 34 = .ok (.bipush (-9), 2) := by decide +kernel
theorem dX6_trial_36 : decode cX6_trial 36 = .ok (.ireturn, 1) := by decide +kernel
theorem dX6_keepAct_0 : decode cX6_keepAct 0 = .ok (.iconst 0, 1) := by decide +kernel
theorem dX6_keepAct_1 : decode cX6_keepAct 1 = .ok (.istore_n 1, 1) := by decide +kernel
theorem dX6_keepAct_2 : decode cX6_keepAct 2 = .ok (.iload_n 1, 1) := by decide +kernel
theorem dX6_keepAct_3 : decode cX6_keepAct 3 = .ok (.bipush 13, 2) := by decide +kernel
theorem dX6_keepAct_5 : decode cX6_keepAct 5 = .ok (.if_icmp .ge 29, 3) := by decide +kernel
theorem dX6_keepAct_8 : decode cX6_keepAct 8 = .ok (.aload_n 0, 1) := by decide +kernel
theorem dX6_keepAct_9 : decode cX6_keepAct 9 = .ok (.getfield 28, 3) := by decide +kernel
theorem dX6_keepAct_12 : decode cX6_keepAct 12 = .ok (.bipush 13, 2) := by decide +kernel
theorem dX6_keepAct_14 : decode cX6_keepAct 14 = .ok (.aload_n 0, 1) := by decide +kernel
theorem dX6_keepAct_15 : decode cX6_keepAct 15 = .ok (.getfield 113, 3) := by decide +kernel
theorem dX6_keepAct_18 : decode cX6_keepAct 18 = .ok (.imul, 1) := by decide +kernel
theorem dX6_keepAct_19 : decode cX6_keepAct 19 = .ok (.iload_n 1, 1) := by decide +kernel
theorem dX6_keepAct_20 : decode cX6_keepAct 20 = .ok (.iadd, 1) := by decide +kernel
theorem dX6_keepAct_21 : decode cX6_keepAct 21 = .ok (.aload_n 0, 1) := by decide +kernel
theorem dX6_keepAct_22 : decode cX6_keepAct 22 = .ok (.getfield 16, 3) := by decide +kernel
theorem dX6_keepAct_25 : decode cX6_keepAct 25 = .ok (.iload_n 1, 1) := by decide +kernel
theorem dX6_keepAct_26 : decode cX6_keepAct 26 = .ok (.iaload, 1) := by decide +kernel
theorem dX6_keepAct_27 : decode cX6_keepAct 27 = .ok (.iastore, 1) := by decide +kernel
theorem dX6_keepAct_28 : decode cX6_keepAct 28 = .ok (.iinc 1 1, 3) := by decide +kernel
theorem dX6_keepAct_31 : decode cX6_keepAct 31 = .ok (.goto (-29), 3) := by decide +kernel
theorem dX6_keepAct_34 : decode cX6_keepAct 34 = .ok (.aload_n 0, 1) := by decide +kernel
theorem dX6_keepAct_35 : decode cX6_keepAct 35 = .ok (.aload_n 0, 1) := by decide +kernel
theorem dX6_keepAct_36 : decode cX6_keepAct 36 = .ok (.getfield 113, 3) := by decide +kernel
theorem dX6_keepAct_39 : decode cX6_keepAct 39 = .ok (.iconst 1, 1) := by decide +kernel
theorem dX6_keepAct_40 : decode cX6_keepAct 40 = .ok (.iadd, 1) := by decide +kernel
theorem dX6_keepAct_41 : decode cX6_keepAct 41 = .ok (.bipush 16, 2) := by decide +kernel
theorem dX6_keepAct_43 : decode cX6_keepAct 43 = .ok (.irem, 1) := by decide +kernel
theorem dX6_keepAct_44 : decode cX6_keepAct 44 = .ok (.putfield 113, 3) := by decide +kernel
theorem dX6_keepAct_47 : decode cX6_keepAct 47 = .ok (.aload_n 0, 1) := by decide +kernel
theorem dX6_keepAct_48 : decode cX6_keepAct 48 = .ok (.aload_n 0, 1) := by decide +kernel
theorem dX6_keepAct_49 : decode cX6_keepAct 49 = .ok (.getfield 86, 3) := by decide +kernel
theorem dX6_keepAct_52 : decode cX6_keepAct 52 = .ok (.bipush 16, 2) := by decide +kernel
theorem dX6_keepAct_54 : decode cX6_keepAct 54 = .ok (.if_icmp .ge 12, 3) := by decide +kernel
theorem dX6_keepAct_57 : decode cX6_keepAct 57 = .ok (.aload_n 0, 1) := by decide +kernel
theorem dX6_keepAct_58 : decode cX6_keepAct 58 = .ok (.getfield 86, 3) := by decide +kernel
theorem dX6_keepAct_61 : decode cX6_keepAct 61 = .ok (.iconst 1, 1) := by decide +kernel
theorem dX6_keepAct_62 : decode cX6_keepAct 62 = .ok (.iadd, 1) := by decide +kernel
theorem dX6_keepAct_63 : decode cX6_keepAct 63 = .ok (.goto 5, 3) := by decide +kernel
theorem dX6_keepAct_66 : decode cX6_keepAct 66 = .ok (.bipush 16, 2) := by decide +kernel
theorem dX6_keepAct_68 : decode cX6_keepAct 68 = .ok (.putfield 86, 3) := by decide +kernel
theorem dX6_keepAct_71 : decode cX6_keepAct 71 = .ok (.return_, 1) := by decide +kernel
set_option maxRecDepth 20000 in
theorem ggX6_speak_X6_in : GoodIn wsX6_speak wsX6_in := goodIn_r _ [6] (by decide +kernel) (by decide +kernel)
set_option maxRecDepth 20000 in
theorem gX6_speak_X6_in : GoodIn wsX6_speak (va_wsS RX6 52 yX6_in wsX6_in) := goodIn_app (goodIn_of _ (by decide +kernel)) ggX6_speak_X6_in
set_option maxRecDepth 20000 in
theorem ggX6_speak_X6_wordsOf : GoodIn wsX6_speak wsX6_wordsOf := goodIn_r _ [9] (by decide +kernel) (by decide +kernel)
set_option maxRecDepth 20000 in
theorem gX6_speak_X6_wordsOf : GoodIn wsX6_speak (va_wsS RX6 89 yX6_wordsOf wsX6_wordsOf) := goodIn_app (goodIn_of _ (by decide +kernel)) ggX6_speak_X6_wordsOf
set_option maxRecDepth 20000 in
theorem ggX6_speak_X6_keepAct : GoodIn wsX6_speak wsX6_keepAct := goodIn_r _ [13, 14, 15, 2, 16, 20, 21, 22, 23, 24, 25, 26, 27, 28, 29, 30, 31, 32, 33, 34, 35, 36, 37, 38] (by decide +kernel) (by decide +kernel)
set_option maxRecDepth 20000 in
theorem gX6_speak_X6_keepAct : GoodIn wsX6_speak (wsV RX6 118 RX6 yX6_keepAct wsX6_keepAct) := goodIn_app (goodIn_of _ (by decide +kernel)) ggX6_speak_X6_keepAct
set_option maxRecDepth 20000 in
theorem ggX6_speak_X6_withWord : GoodIn wsX6_speak wsX6_withWord := goodIn_r _ [19] (by decide +kernel) (by decide +kernel)
set_option maxRecDepth 20000 in
theorem gX6_speak_X6_withWord : GoodIn wsX6_speak (va_wsS RX6 99 yX6_withWord wsX6_withWord) := goodIn_app (goodIn_of _ (by decide +kernel)) ggX6_speak_X6_withWord
theorem dX6_speak_0 : decode cX6_speak 0 = .ok (.iload_n 1, 1) := by decide +kernel
theorem dX6_speak_1 : decode cX6_speak 1 = .ok (.i2l, 1) := by decide +kernel
theorem dX6_speak_2 : decode cX6_speak 2 = .ok (.lconst 0, 1) := by decide +kernel
theorem dX6_speak_3 : decode cX6_speak 3 = .ok (.ldc2_w 116, 3) := by decide +kernel
theorem dX6_speak_6 : decode cX6_speak 6 = .ok (.invokestatic 52, 3) := by decide +kernel
theorem dX6_speak_9 : decode cX6_speak 9 = .ok (.ifCond .ne 6, 3) := by decide +kernel
theorem dX6_speak_12 : decode cX6_speak 12 = .ok (.bipush (-2), 2) := by decide +kernel
theorem dX6_speak_14 : decode cX6_speak 14 = .ok (.ireturn, 1) := by decide +kernel
theorem dX6_speak_15 : decode cX6_speak 15 = .ok (.aload_n 0, 1) := by decide +kernel
theorem dX6_speak_16 : decode cX6_speak 16 = .ok (.getfield 16, 3) := by decide +kernel
theorem dX6_speak_19 : decode cX6_speak 19 = .ok (.iconst 0, 1) := by decide +kernel
theorem dX6_speak_20 : decode cX6_speak 20 = .ok (.iaload, 1) := by decide +kernel
theorem dX6_speak_21 : decode cX6_speak 21 = .ok (.invokestatic 89, 3) := by decide +kernel
theorem dX6_speak_24 : decode cX6_speak 24 = .ok (.bipush 6, 2) := by decide +kernel
theorem dX6_speak_26 : decode cX6_speak 26 = .ok (.if_icmp .ne 6, 3) := by decide +kernel
theorem dX6_speak_29 : decode cX6_speak 29 = .ok (.bipush (-4), 2) := by decide +kernel
theorem dX6_speak_31 : decode cX6_speak 31 = .ok (.ireturn, 1) := by decide +kernel
theorem dX6_speak_32 : decode cX6_speak 32 = .ok (.aload_n 0, 1) := by decide +kernel
theorem dX6_speak_33 : decode cX6_speak 33 = .ok (.invokevirtual 118, 3) := by decide +kernel
theorem dX6_speak_36 : decode cX6_speak 36 = .ok (.aload_n 0, 1) := by decide +kernel
theorem dX6_speak_37 : decode cX6_speak 37 = .ok (.getfield 16, 3) := by decide +kernel
theorem dX6_speak_40 : decode cX6_speak 40 = .ok (.iconst 0, 1) := by decide +kernel
theorem dX6_speak_41 : decode cX6_speak 41 = .ok (.aload_n 0, 1) := by decide +kernel
theorem dX6_speak_42 : decode cX6_speak 42 = .ok (.getfield 16, 3) := by decide +kernel
theorem dX6_speak_45 : decode cX6_speak 45 = .ok (.iconst 0, 1) := by decide +kernel
theorem dX6_speak_46 : decode cX6_speak 46 = .ok (.iaload, 1) := by decide +kernel
theorem dX6_speak_47 : decode cX6_speak 47 = .ok (.iload_n 1, 1) := by decide +kernel
theorem dX6_speak_48 : decode cX6_speak 48 = .ok (.invokestatic 99, 3) := by decide +kernel
theorem dX6_speak_51 : decode cX6_speak 51 = .ok (.iastore, 1) := by decide +kernel
theorem dX6_speak_52 : decode cX6_speak 52 = .ok (.aload_n 0, 1) := by decide +kernel
theorem dX6_speak_53 : decode cX6_speak 53 = .ok (.getfield 16, 3) := by decide +kernel
theorem dX6_speak_56 : decode cX6_speak 56 = .ok (.iconst 0, 1) := by decide +kernel
theorem dX6_speak_57 : decode cX6_speak 57 = .ok (.iaload, 1) := by decide +kernel
theorem dX6_speak_58 : decode cX6_speak 58 = .ok (.invokestatic 89, 3) := by decide +kernel
theorem dX6_speak_61 : decode cX6_speak 61 = .ok (.ireturn, 1) := by decide +kernel
set_option maxRecDepth 20000 in
theorem ggX6_strike_X6_keepAct : GoodIn wsX6_strike wsX6_keepAct := goodIn_r _ [6, 7, 8, 1, 9, 10, 11, 12, 13, 14, 15, 16, 17, 18, 19, 20, 21, 22, 23, 24, 25, 26, 27, 28] (by decide +kernel) (by decide +kernel)
set_option maxRecDepth 20000 in
theorem gX6_strike_X6_keepAct : GoodIn wsX6_strike (wsV RX6 118 RX6 yX6_keepAct wsX6_keepAct) := goodIn_app (goodIn_of _ (by decide +kernel)) ggX6_strike_X6_keepAct
theorem dX6_strike_0 : decode cX6_strike 0 = .ok (.aload_n 0, 1) := by decide +kernel
theorem dX6_strike_1 : decode cX6_strike 1 = .ok (.getfield 16, 3) := by decide +kernel
theorem dX6_strike_4 : decode cX6_strike 4 = .ok (.iconst 0, 1) := by decide +kernel
theorem dX6_strike_5 : decode cX6_strike 5 = .ok (.iaload, 1) := by decide +kernel
theorem dX6_strike_6 : decode cX6_strike 6 = .ok (.ifCond .ne 6, 3) := by decide +kernel
theorem dX6_strike_9 : decode cX6_strike 9 = .ok (.bipush (-3), 2) := by decide +kernel
theorem dX6_strike_11 : decode cX6_strike 11 = .ok (.ireturn, 1) := by decide +kernel
theorem dX6_strike_12 : decode cX6_strike 12 = .ok (.aload_n 0, 1) := by decide +kernel
theorem dX6_strike_13 : decode cX6_strike 13 = .ok (.invokevirtual 118, 3) := by decide +kernel
theorem dX6_strike_16 : decode cX6_strike 16 = .ok (.aload_n 0, 1) := by decide +kernel
theorem dX6_strike_17 : decode cX6_strike 17 = .ok (.getfield 16, 3) := by decide +kernel
theorem dX6_strike_20 : decode cX6_strike 20 = .ok (.iconst 0, 1) := by decide +kernel
theorem dX6_strike_21 : decode cX6_strike 21 = .ok (.iaload, 1) := by decide +kernel
theorem dX6_strike_22 : decode cX6_strike 22 = .ok (.iconst 4, 1) := by decide +kernel
theorem dX6_strike_23 : decode cX6_strike 23 = .ok (.irem, 1) := by decide +kernel
theorem dX6_strike_24 : decode cX6_strike 24 = .ok (.istore_n 1, 1) := by decide +kernel
theorem dX6_strike_25 : decode cX6_strike 25 = .ok (.aload_n 0, 1) := by decide +kernel
theorem dX6_strike_26 : decode cX6_strike 26 = .ok (.getfield 16, 3) := by decide +kernel
theorem dX6_strike_29 : decode cX6_strike 29 = .ok (.iconst 0, 1) := by decide +kernel
theorem dX6_strike_30 : decode cX6_strike 30 = .ok (.aload_n 0, 1) := by decide +kernel
theorem dX6_strike_31 : decode cX6_strike 31 = .ok (.getfield 16, 3) := by decide +kernel
theorem dX6_strike_34 : decode cX6_strike 34 = .ok (.iconst 0, 1) := by decide +kernel
theorem dX6_strike_35 : decode cX6_strike 35 = .ok (.iaload, 1) := by decide +kernel
theorem dX6_strike_36 : decode cX6_strike 36 = .ok (.sipush 4096, 3) := by decide +kernel
theorem dX6_strike_39 : decode cX6_strike 39 = .ok (.idiv, 1) := by decide +kernel
theorem dX6_strike_40 : decode cX6_strike 40 = .ok (.sipush 4096, 3) := by decide +kernel
theorem dX6_strike_43 : decode cX6_strike 43 = .ok (.imul, 1) := by decide +kernel
theorem dX6_strike_44 : decode cX6_strike 44 = .ok (.sipush 4096, 3) := by decide +kernel
theorem dX6_strike_47 : decode cX6_strike 47 = .ok (.isub, 1) := by decide +kernel
theorem dX6_strike_48 : decode cX6_strike 48 = .ok (.aload_n 0, 1) := by decide +kernel
theorem dX6_strike_49 : decode cX6_strike 49 = .ok (.getfield 16, 3) := by decide +kernel
theorem dX6_strike_52 : decode cX6_strike 52 = .ok (.iconst 0, 1) := by decide +kernel
theorem dX6_strike_53 : decode cX6_strike 53 = .ok (.iaload, 1) := by decide +kernel
theorem dX6_strike_54 : decode cX6_strike 54 = .ok (.sipush 4096, 3) := by decide +kernel
theorem dX6_strike_57 : decode cX6_strike 57 = .ok (.irem, 1) := by decide +kernel
theorem dX6_strike_58 : decode cX6_strike 58 = .ok (.iconst 4, 1) := by decide +kernel
theorem dX6_strike_59 : decode cX6_strike 59 = .ok (.idiv, 1) := by decide +kernel
theorem dX6_strike_60 : decode cX6_strike 60 = .ok (.iadd, 1) := by decide +kernel
theorem dX6_strike_61 : decode cX6_strike 61 = .ok (.iastore, 1) := by decide +kernel
theorem dX6_strike_62 : decode cX6_strike 62 = .ok (.iload_n 1, 1) := by decide +kernel
theorem dX6_strike_63 : decode cX6_strike 63 = .ok (.ireturn, 1) := by decide +kernel
set_option maxRecDepth 20000 in
theorem ggX6_reform_X6_isClerk : GoodIn wsX6_reform wsX6_isClerk := goodIn_r _ [6, 7, 8, 9, 5, 10, 18, 19, 20, 21, 22, 23, 24, 25, 26, 27, 28, 29, 30, 31, 32, 33, 34, 35, 36] (by decide +kernel) (by decide +kernel)
set_option maxRecDepth 20000 in
theorem gX6_reform_X6_isClerk : GoodIn wsX6_reform (wsV RX6 106 RX6 yX6_isClerk wsX6_isClerk) := goodIn_app (goodIn_of _ (by decide +kernel)) ggX6_reform_X6_isClerk
set_option maxRecDepth 20000 in
theorem ggX6_reform_X6_keepAct : GoodIn wsX6_reform wsX6_keepAct := goodIn_r _ [14, 15, 16, 1, 17, 18, 19, 20, 21, 22, 23, 24, 25, 26, 27, 28, 29, 30, 31, 32, 33, 34, 35, 36] (by decide +kernel) (by decide +kernel)
set_option maxRecDepth 20000 in
theorem gX6_reform_X6_keepAct : GoodIn wsX6_reform (wsV RX6 118 RX6 yX6_keepAct wsX6_keepAct) := goodIn_app (goodIn_of _ (by decide +kernel)) ggX6_reform_X6_keepAct
theorem dX6_reform_0 : decode cX6_reform 0 = .ok (.aload_n 0, 1) := by decide +kernel
theorem dX6_reform_1 : decode cX6_reform 1 = .ok (.iload_n 1, 1) := by decide +kernel
theorem dX6_reform_2 : decode cX6_reform 2 = .ok (.invokevirtual 106, 3) := by decide +kernel
theorem dX6_reform_5 : decode cX6_reform 5 = .ok (.ifCond .ne 5, 3) := by decide +kernel
theorem dX6_reform_8 : decode cX6_reform 8 = .ok (.iconst (-1), 1) := by decide +kernel
theorem dX6_reform_9 : decode cX6_reform 9 = .ok (.ireturn, 1) := by decide +kernel
theorem dX6_reform_10 : decode cX6_reform 10 = .ok (.aload_n 0, 1) := by decide +kernel
theorem dX6_reform_11 : decode cX6_reform 11 = .ok (.getfield 16, 3) := by decide +kernel
theorem dX6_reform_14 : decode cX6_reform 14 = .ok (.iconst 1, 1) := by decide +kernel
theorem dX6_reform_15 : decode cX6_reform 15 = .ok (.iload_n 1, 1) := by decide +kernel
theorem dX6_reform_16 : decode cX6_reform 16 = .ok (.iadd, 1) := by decide +kernel
theorem dX6_reform_17 : decode cX6_reform 17 = .ok (.iaload, 1) := by decide +kernel
theorem dX6_reform_18 : decode cX6_reform 18 = .ok (.bipush (-9), 2) := by decide +kernel
theorem dX6_reform_20 : decode cX6_reform 20 = .ok (.if_icmp .ne 6, 3) := by decide +kernel
theorem dX6_reform_23 : decode cX6_reform 23 = .ok (.bipush (-3), 2) := by decide +kernel
theorem dX6_reform_25 : decode cX6_reform 25 = .ok (.ireturn, 1) := by decide +kernel
theorem dX6_reform_26 : decode cX6_reform 26 = .ok (.aload_n 0, 1) := by decide +kernel
theorem dX6_reform_27 : decode cX6_reform 27 = .ok (.invokevirtual 118, 3) := by decide +kernel
theorem dX6_reform_30 : decode cX6_reform 30 = .ok (.aload_n 0, 1) := by decide +kernel
theorem dX6_reform_31 : decode cX6_reform 31 = .ok (.getfield 16, 3) := by decide +kernel
theorem dX6_reform_34 : decode cX6_reform 34 = .ok (.iconst 1, 1) := by decide +kernel
theorem dX6_reform_35 : decode cX6_reform 35 = .ok (.iload_n 1, 1) := by decide +kernel
theorem dX6_reform_36 : decode cX6_reform 36 = .ok (.iadd, 1) := by decide +kernel
theorem dX6_reform_37 : decode cX6_reform 37 = .ok (.iaload, 1) := by decide +kernel
theorem dX6_reform_38 : decode cX6_reform 38 = .ok (.istore_n 2, 1) := by decide +kernel
theorem dX6_reform_39 : decode cX6_reform 39 = .ok (.aload_n 0, 1) := by decide +kernel
theorem dX6_reform_40 : decode cX6_reform 40 = .ok (.getfield 16, 3) := by decide +kernel
theorem dX6_reform_43 : decode cX6_reform 43 = .ok (.iconst 1, 1) := by decide +kernel
theorem dX6_reform_44 : decode cX6_reform 44 = .ok (.iload_n 1, 1) := by decide +kernel
theorem dX6_reform_45 : decode cX6_reform 45 = .ok (.iadd, 1) := by decide +kernel
theorem dX6_reform_46 : decode cX6_reform 46 = .ok (.bipush (-9), 2) := by decide +kernel
theorem dX6_reform_48 : decode cX6_reform 48 = .ok (.iastore, 1) := by decide +kernel
theorem dX6_reform_49 : decode cX6_reform 49 = .ok (.aload_n 0, 1) := by decide +kernel
theorem dX6_reform_50 : decode cX6_reform 50 = .ok (.getfield 16, 3) := by decide +kernel
theorem dX6_reform_53 : decode cX6_reform 53 = .ok (.iconst 5, 1) := by decide +kernel
theorem dX6_reform_54 : decode cX6_reform 54 = .ok (.iload_n 1, 1) := by decide +kernel
theorem dX6_reform_55 : decode cX6_reform 55 = .ok (.iadd, 1) := by decide +kernel
theorem dX6_reform_56 : decode cX6_reform 56 = .ok (.bipush (-9), 2) := by decide +kernel
theorem dX6_reform_58 : decode cX6_reform 58 = .ok (.iastore, 1) := by decide +kernel
theorem dX6_reform_59 : decode cX6_reform 59 = .ok (.iload_n 2, 1) := by decide +kernel
theorem dX6_reform_60 : decode cX6_reform 60 = .ok (.ireturn, 1) := by decide +kernel
set_option maxRecDepth 20000 in
theorem ggX6_seat_X6_isClerk : GoodIn wsX6_seat wsX6_isClerk := goodIn_r _ [6, 7, 8, 9, 5, 10, 18, 19, 20, 21, 22, 23, 24, 25, 26, 27, 28, 29, 30, 31, 32, 33, 34, 35, 36] (by decide +kernel) (by decide +kernel)
set_option maxRecDepth 20000 in
theorem gX6_seat_X6_isClerk : GoodIn wsX6_seat (wsV RX6 106 RX6 yX6_isClerk wsX6_isClerk) := goodIn_app (goodIn_of _ (by decide +kernel)) ggX6_seat_X6_isClerk
set_option maxRecDepth 20000 in
theorem ggX6_seat_X6_in : GoodIn wsX6_seat wsX6_in := goodIn_r _ [10] (by decide +kernel) (by decide +kernel)
set_option maxRecDepth 20000 in
theorem gX6_seat_X6_in : GoodIn wsX6_seat (va_wsS RX6 52 yX6_in wsX6_in) := goodIn_app (goodIn_of _ (by decide +kernel)) ggX6_seat_X6_in
set_option maxRecDepth 20000 in
theorem ggX6_seat_X6_keepAct : GoodIn wsX6_seat wsX6_keepAct := goodIn_r _ [14, 15, 16, 1, 17, 18, 19, 20, 21, 22, 23, 24, 25, 26, 27, 28, 29, 30, 31, 32, 33, 34, 35, 36] (by decide +kernel) (by decide +kernel)
set_option maxRecDepth 20000 in
theorem gX6_seat_X6_keepAct : GoodIn wsX6_seat (wsV RX6 118 RX6 yX6_keepAct wsX6_keepAct) := goodIn_app (goodIn_of _ (by decide +kernel)) ggX6_seat_X6_keepAct
theorem dX6_seat_0 : decode cX6_seat 0 = .ok (.aload_n 0, 1) := by decide +kernel
theorem dX6_seat_1 : decode cX6_seat 1 = .ok (.iload_n 1, 1) := by decide +kernel
theorem dX6_seat_2 : decode cX6_seat 2 = .ok (.invokevirtual 106, 3) := by decide +kernel
theorem dX6_seat_5 : decode cX6_seat 5 = .ok (.ifCond .ne 5, 3) := by decide +kernel
theorem dX6_seat_8 : decode cX6_seat 8 = .ok (.iconst (-1), 1) := by decide +kernel
theorem dX6_seat_9 : decode cX6_seat 9 = .ok (.ireturn, 1) := by decide +kernel
theorem dX6_seat_10 : decode cX6_seat 10 = .ok (.iload_n 2, 1) := by decide +kernel
theorem dX6_seat_11 : decode cX6_seat 11 = .ok (.bipush (-9), 2) := by decide +kernel
theorem dX6_seat_13 : decode cX6_seat 13 = .ok (.if_icmp .eq 19, 3) := by decide +kernel
theorem dX6_seat_16 : decode cX6_seat 16 = .ok (.iload_n 2, 1) := by decide +kernel
theorem dX6_seat_17 : decode cX6_seat 17 = .ok (.i2l, 1) := by decide +kernel
theorem dX6_seat_18 : decode cX6_seat 18 = .ok (.lconst 0, 1) := by decide +kernel
theorem dX6_seat_19 : decode cX6_seat 19 = .ok (.iload_n 1, 1) := by decide +kernel
theorem dX6_seat_20 : decode cX6_seat 20 = .ok (.iconst 1, 1) := by decide +kernel
theorem dX6_seat_21 : decode cX6_seat 21 = .ok (.isub, 1) := by decide +kernel
theorem dX6_seat_22 : decode cX6_seat 22 = .ok (.i2l, 1) := by decide +kernel
theorem dX6_seat_23 : decode cX6_seat 23 = .ok (.invokestatic 52, 3) := by decide +kernel
theorem dX6_seat_26 : decode cX6_seat 26 = .ok (.ifCond .ne 6, 3) := by decide +kernel
theorem dX6_seat_29 : decode cX6_seat 29 = .ok (.bipush (-2), 2) := by decide +kernel
theorem dX6_seat_31 : decode cX6_seat 31 = .ok (.ireturn, 1) := by decide +kernel
theorem dX6_seat_32 : decode cX6_seat 32 = .ok (.aload_n 0, 1) := by decide +kernel
theorem dX6_seat_33 : decode cX6_seat 33 = .ok (.getfield 16, 3) := by decide +kernel
theorem dX6_seat_36 : decode cX6_seat 36 = .ok (.bipush 9, 2) := by decide +kernel
theorem dX6_seat_38 : decode cX6_seat 38 = .ok (.iload_n 1, 1) := by decide +kernel
theorem dX6_seat_39 : decode cX6_seat 39 = .ok (.iadd, 1) := by decide +kernel
theorem dX6_seat_40 : decode cX6_seat 40 = .ok (.iaload, 1) := by decide +kernel
theorem dX6_seat_41 : decode cX6_seat 41 = .ok (.iload_n 2, 1) := by decide +kernel
theorem dX6_seat_42 : decode cX6_seat 42 = .ok (.if_icmp .ne 6, 3) := by decide +kernel
theorem dX6_seat_45 : decode cX6_seat 45 = .ok (.bipush (-3), 2) := by decide +kernel
theorem dX6_seat_47 : decode cX6_seat 47 = .ok (.ireturn, 1) := by decide +kernel
theorem dX6_seat_48 : decode cX6_seat 48 = .ok (.aload_n 0, 1) := by decide +kernel
theorem dX6_seat_49 : decode cX6_seat 49 = .ok (.invokevirtual 118, 3) := by decide +kernel
theorem dX6_seat_52 : decode cX6_seat 52 = .ok (.aload_n 0, 1) := by decide +kernel
theorem dX6_seat_53 : decode cX6_seat 53 = .ok (.getfield 16, 3) := by decide +kernel
theorem dX6_seat_56 : decode cX6_seat 56 = .ok (.bipush 9, 2) := by decide +kernel
theorem dX6_seat_58 : decode cX6_seat 58 = .ok (.iload_n 1, 1) := by decide +kernel
theorem dX6_seat_59 : decode cX6_seat 59 = .ok (.iadd, 1) := by decide +kernel
theorem dX6_seat_60 : decode cX6_seat 60 = .ok (.iaload, 1) := by decide +kernel
theorem dX6_seat_61 : decode cX6_seat 61 = .ok (.istore_n 3, 1) := by decide +kernel
theorem dX6_seat_62 : decode cX6_seat 62 = .ok (.aload_n 0, 1) := by decide +kernel
theorem dX6_seat_63 : decode cX6_seat 63 = .ok (.getfield 16, 3) := by decide +kernel
theorem dX6_seat_66 : decode cX6_seat 66 = .ok (.bipush 9, 2) := by decide +kernel
theorem dX6_seat_68 : decode cX6_seat 68 = .ok (.iload_n 1, 1) := by decide +kernel
theorem dX6_seat_69 : decode cX6_seat 69 = .ok (.iadd, 1) := by decide +kernel
theorem dX6_seat_70 : decode cX6_seat 70 = .ok (.iload_n 2, 1) := by decide +kernel
theorem dX6_seat_71 : decode cX6_seat 71 = .ok (.iastore, 1) := by decide +kernel
theorem dX6_seat_72 : decode cX6_seat 72 = .ok (.iload_n 3, 1) := by decide +kernel
theorem dX6_seat_73 : decode cX6_seat 73 = .ok (.ireturn, 1) := by decide +kernel
theorem dX6_undo_0 : decode cX6_undo 0 = .ok (.aload_n 0, 1) := by decide +kernel
theorem dX6_undo_1 : decode cX6_undo 1 = .ok (.getfield 86, 3) := by decide +kernel
theorem dX6_undo_4 : decode cX6_undo 4 = .ok (.ifCond .ne 6, 3) := by decide +kernel
theorem dX6_undo_7 : decode cX6_undo 7 = .ok (.bipush (-3), 2) := by decide +kernel
theorem dX6_undo_9 : decode cX6_undo 9 = .ok (.ireturn, 1) := by decide +kernel
theorem dX6_undo_10 : decode cX6_undo 10 = .ok (.aload_n 0, 1) := by decide +kernel
theorem dX6_undo_11 : decode cX6_undo 11 = .ok (.dup, 1) := by decide +kernel
theorem dX6_undo_12 : decode cX6_undo 12 = .ok (.getfield 86, 3) := by decide +kernel
theorem dX6_undo_15 : decode cX6_undo 15 = .ok (.iconst 1, 1) := by decide +kernel
theorem dX6_undo_16 : decode cX6_undo 16 = .ok (.isub, 1) := by decide +kernel
theorem dX6_undo_17 : decode cX6_undo 17 = .ok (.putfield 86, 3) := by decide +kernel
theorem dX6_undo_20 : decode cX6_undo 20 = .ok (.aload_n 0, 1) := by decide +kernel
theorem dX6_undo_21 : decode cX6_undo 21 = .ok (.aload_n 0, 1) := by decide +kernel
theorem dX6_undo_22 : decode cX6_undo 22 = .ok (.getfield 113, 3) := by decide +kernel
theorem dX6_undo_25 : decode cX6_undo 25 = .ok (.bipush 15, 2) := by decide +kernel
theorem dX6_undo_27 : decode cX6_undo 27 = .ok (.iadd, 1) := by decide +kernel
theorem dX6_undo_28 : decode cX6_undo 28 = .ok (.bipush 16, 2) := by decide +kernel
theorem dX6_undo_30 : decode cX6_undo 30 = .ok (.irem, 1) := by decide +kernel
theorem dX6_undo_31 : decode cX6_undo 31 = .ok (.putfield 113, 3) := by decide +kernel
theorem dX6_undo_34 : decode cX6_undo 34 = .ok (.iconst 0, 1) := by decide +kernel
theorem dX6_undo_35 : decode cX6_undo 35 = .ok (.istore_n 1, 1) := by decide +kernel
theorem dX6_undo_36 : decode cX6_undo 36 = .ok (.iload_n 1, 1) := by decide +kernel
theorem dX6_undo_37 : decode cX6_undo 37 = .ok (.bipush 13, 2) := by decide +kernel
theorem dX6_undo_39 : decode cX6_undo 39 = .ok (.if_icmp .ge 29, 3) := by decide +kernel
theorem dX6_undo_42 : decode cX6_undo 42 = .ok (.aload_n 0, 1) := by decide +kernel
theorem dX6_undo_43 : decode cX6_undo 43 = .ok (.getfield 16, 3) := by decide +kernel
theorem dX6_undo_46 : decode cX6_undo 46 = .ok (.iload_n 1, 1) := by decide +kernel
theorem dX6_undo_47 : decode cX6_undo 47 = .ok (.aload_n 0, 1) := by decide +kernel
theorem dX6_undo_48 : decode cX6_undo 48 = .ok (.getfield 28, 3) := by decide +kernel
theorem dX6_undo_51 : decode cX6_undo 51 = .ok (.bipush 13, 2) := by decide +kernel
theorem dX6_undo_53 : decode cX6_undo 53 = .ok (.aload_n 0, 1) := by decide +kernel
theorem dX6_undo_54 : decode cX6_undo 54 = .ok (.getfield 113, 3) := by decide +kernel
theorem dX6_undo_57 : decode cX6_undo 57 = .ok (.imul, 1) := by decide +kernel
theorem dX6_undo_58 : decode cX6_undo 58 = .ok (.iload_n 1, 1) := by decide +kernel
theorem dX6_undo_59 : decode cX6_undo 59 = .ok (.iadd, 1) := by decide +kernel
theorem dX6_undo_60 : decode cX6_undo 60 = .ok (.iaload, 1) := by decide +kernel
theorem dX6_undo_61 : decode cX6_undo 61 = .ok (.iastore, 1) := by decide +kernel
theorem dX6_undo_62 : decode cX6_undo 62 = .ok (.iinc 1 1, 3) := by decide +kernel
theorem dX6_undo_65 : decode cX6_undo 65 = .ok (.goto (-29), 3) := by decide +kernel
theorem dX6_undo_68 : decode cX6_undo 68 = .ok (.aload_n 0, 1) := by decide +kernel
theorem dX6_undo_69 : decode cX6_undo 69 = .ok (.getfield 86, 3) := by decide +kernel
theorem dX6_undo_72 : decode cX6_undo 72 = .ok (.ireturn, 1) := by decide +kernel
set_option maxRecDepth 20000 in
theorem ggX6_toldWords_X6_wordsOf : GoodIn wsX6_toldWords wsX6_wordsOf := goodIn_r _ [5] (by decide +kernel) (by decide +kernel)
set_option maxRecDepth 20000 in
theorem gX6_toldWords_X6_wordsOf : GoodIn wsX6_toldWords (va_wsS RX6 89 yX6_wordsOf wsX6_wordsOf) := goodIn_app (goodIn_of _ (by decide +kernel)) ggX6_toldWords_X6_wordsOf
theorem dX6_toldWords_0 : decode cX6_toldWords 0 = .ok (.aload_n 0, 1) := by decide +kernel
theorem dX6_toldWords_1 : decode cX6_toldWords 1 = .ok (.getfield 19, 3) := by decide +kernel
theorem dX6_toldWords_4 : decode cX6_toldWords 4 = .ok (.iload_n 1, 1) := by decide +kernel
theorem dX6_toldWords_5 : decode cX6_toldWords 5 = .ok (.iaload, 1) := by decide +kernel
theorem dX6_toldWords_6 : decode cX6_toldWords 6 = .ok (.bipush (-9), 2) := by decide +kernel
theorem dX6_toldWords_8 : decode cX6_toldWords 8 = .ok (.if_icmp .ne 8, 3) := by decide +kernel
theorem dX6_toldWords_11 : decode cX6_toldWords 11 = .ok (.bipush (-9), 2) := by decide +kernel
theorem dX6_toldWords_13 : decode cX6_toldWords 13 = .ok (.goto 12, 3) := by decide +kernel
theorem dX6_toldWords_16 : decode cX6_toldWords 16 = .ok (.aload_n 0, 1) := by decide +kernel
theorem dX6_toldWords_17 : decode cX6_toldWords 17 = .ok (.getfield 19, 3) := by decide +kernel
theorem dX6_toldWords_20 : decode cX6_toldWords 20 = .ok (.iload_n 1, 1) := by decide +kernel
theorem dX6_toldWords_21 : decode cX6_toldWords 21 = .ok (.iaload, 1) := by decide +kernel
theorem dX6_toldWords_22 : decode cX6_toldWords 22 = .ok (.invokestatic 89, 3) := by decide +kernel
theorem dX6_toldWords_25 : decode cX6_toldWords 25 = .ok (.ireturn, 1) := by decide +kernel
set_option maxRecDepth 20000 in
theorem ggX6_open_X6_isClerk : GoodIn wsX6_open wsX6_isClerk := goodIn_r _ [6, 7, 8, 9, 5, 10, 18, 19, 20, 21, 22, 23, 24, 25, 26, 27, 28, 29, 30, 31, 32, 33, 34, 35, 36] (by decide +kernel) (by decide +kernel)
set_option maxRecDepth 20000 in
theorem gX6_open_X6_isClerk : GoodIn wsX6_open (wsV RX6 106 RX6 yX6_isClerk wsX6_isClerk) := goodIn_app (goodIn_of _ (by decide +kernel)) ggX6_open_X6_isClerk
set_option maxRecDepth 20000 in
theorem ggX6_open_X6_toldWords : GoodIn wsX6_open wsX6_toldWords := goodIn_r _ [14, 1, 15, 16, 5, 17, 18, 19, 20, 21, 22, 23, 24, 25, 26, 27, 28, 29, 30, 31, 32, 33, 34, 35, 36] (by decide +kernel) (by decide +kernel)
set_option maxRecDepth 20000 in
theorem gX6_open_X6_toldWords : GoodIn wsX6_open (wsV RX6 121 RX6 yX6_toldWords wsX6_toldWords) := goodIn_app (goodIn_of _ (by decide +kernel)) ggX6_open_X6_toldWords
theorem dX6_open_0 : decode cX6_open 0 = .ok (.aload_n 0, 1) := by decide +kernel
theorem dX6_open_1 : decode cX6_open 1 = .ok (.iload_n 1, 1) := by decide +kernel
theorem dX6_open_2 : decode cX6_open 2 = .ok (.invokevirtual 106, 3) := by decide +kernel
theorem dX6_open_5 : decode cX6_open 5 = .ok (.ifCond .ne 5, 3) := by decide +kernel
theorem dX6_open_8 : decode cX6_open 8 = .ok (.iconst (-1), 1) := by decide +kernel
theorem dX6_open_9 : decode cX6_open 9 = .ok (.ireturn, 1) := by decide +kernel
theorem dX6_open_10 : decode cX6_open 10 = .ok (.aload_n 0, 1) := by decide +kernel
theorem dX6_open_11 : decode cX6_open 11 = .ok (.iload_n 1, 1) := by decide +kernel
theorem dX6_open_12 : decode cX6_open 12 = .ok (.invokevirtual 121, 3) := by decide +kernel
theorem dX6_open_15 : decode cX6_open 15 = .ok (.istore_n 2, 1) := by decide +kernel
theorem dX6_open_16 : decode cX6_open 16 = .ok (.aload_n 0, 1) := by decide +kernel
theorem dX6_open_17 : decode cX6_open 17 = .ok (.getfield 19, 3) := by decide +kernel
theorem dX6_open_20 : decode cX6_open 20 = .ok (.iload_n 1, 1) := by decide +kernel
theorem dX6_open_21 : decode cX6_open 21 = .ok (.iconst 0, 1) := by decide +kernel
theorem dX6_open_22 : decode cX6_open 22 = .ok (.iastore, 1) := by decide +kernel
theorem dX6_open_23 : decode cX6_open 23 = .ok (.iload_n 2, 1) := by decide +kernel
theorem dX6_open_24 : decode cX6_open 24 = .ok (.ireturn, 1) := by decide +kernel
set_option maxRecDepth 20000 in
theorem ggX6_tell_X6_isClerk : GoodIn wsX6_tell wsX6_isClerk := goodIn_r _ [7, 8, 9, 10, 6, 11, 18, 19, 20, 21, 22, 23, 24, 25, 26, 27, 28, 29, 30, 31, 32, 33, 34, 35, 36] (by decide +kernel) (by decide +kernel)
set_option maxRecDepth 20000 in
theorem gX6_tell_X6_isClerk : GoodIn wsX6_tell (wsV RX6 106 RX6 yX6_isClerk wsX6_isClerk) := goodIn_app (goodIn_of _ (by decide +kernel)) ggX6_tell_X6_isClerk
set_option maxRecDepth 20000 in
theorem ggX6_tell_X6_in : GoodIn wsX6_tell wsX6_in := goodIn_r _ [11] (by decide +kernel) (by decide +kernel)
set_option maxRecDepth 20000 in
theorem gX6_tell_X6_in : GoodIn wsX6_tell (va_wsS RX6 52 yX6_in wsX6_in) := goodIn_app (goodIn_of _ (by decide +kernel)) ggX6_tell_X6_in
set_option maxRecDepth 20000 in
theorem ggX6_tell_X6_wordsOf : GoodIn wsX6_tell wsX6_wordsOf := goodIn_r _ [14] (by decide +kernel) (by decide +kernel)
set_option maxRecDepth 20000 in
theorem gX6_tell_X6_wordsOf : GoodIn wsX6_tell (va_wsS RX6 89 yX6_wordsOf wsX6_wordsOf) := goodIn_app (goodIn_of _ (by decide +kernel)) ggX6_tell_X6_wordsOf
set_option maxRecDepth 20000 in
theorem ggX6_tell_X6_withWord : GoodIn wsX6_tell wsX6_withWord := goodIn_r _ [17] (by decide +kernel) (by decide +kernel)
set_option maxRecDepth 20000 in
theorem gX6_tell_X6_withWord : GoodIn wsX6_tell (va_wsS RX6 99 yX6_withWord wsX6_withWord) := goodIn_app (goodIn_of _ (by decide +kernel)) ggX6_tell_X6_withWord
theorem dX6_tell_0 : decode cX6_tell 0 = .ok (.aload_n 0, 1) := by decide +kernel
theorem dX6_tell_1 : decode cX6_tell 1 = .ok (.iload_n 1, 1) := by decide +kernel
theorem dX6_tell_2 : decode cX6_tell 2 = .ok (.invokevirtual 106, 3) := by decide +kernel
theorem dX6_tell_5 : decode cX6_tell 5 = .ok (.ifCond .ne 5, 3) := by decide +kernel
theorem dX6_tell_8 : decode cX6_tell 8 = .ok (.iconst (-1), 1) := by decide +kernel
theorem dX6_tell_9 : decode cX6_tell 9 = .ok (.ireturn, 1) := by decide +kernel
theorem dX6_tell_10 : decode cX6_tell 10 = .ok (.iload_n 2, 1) := by decide +kernel
theorem dX6_tell_11 : decode cX6_tell 11 = .ok (.i2l, 1) := by decide +kernel
theorem dX6_tell_12 : decode cX6_tell 12 = .ok (.lconst 0, 1) := by decide +kernel
theorem dX6_tell_13 : decode cX6_tell 13 = .ok (.ldc2_w 116, 3) := by decide +kernel
theorem dX6_tell_16 : decode cX6_tell 16 = .ok (.invokestatic 52, 3) := by decide +kernel
theorem dX6_tell_19 : decode cX6_tell 19 = .ok (.ifCond .ne 6, 3) := by decide +kernel
theorem dX6_tell_22 : decode cX6_tell 22 = .ok (.bipush (-2), 2) := by decide +kernel
theorem dX6_tell_24 : decode cX6_tell 24 = .ok (.ireturn, 1) := by decide +kernel
theorem dX6_tell_25 : decode cX6_tell 25 = .ok (.aload_n 0, 1) := by decide +kernel
theorem dX6_tell_26 : decode cX6_tell 26 = .ok (.getfield 19, 3) := by decide +kernel
theorem dX6_tell_29 : decode cX6_tell 29 = .ok (.iload_n 1, 1) := by decide +kernel
theorem dX6_tell_30 : decode cX6_tell 30 = .ok (.iaload, 1) := by decide +kernel
theorem dX6_tell_31 : decode cX6_tell 31 = .ok (.bipush (-9), 2) := by decide +kernel
theorem dX6_tell_33 : decode cX6_tell 33 = .ok (.if_icmp .ne 6, 3) := by decide +kernel
theorem dX6_tell_36 : decode cX6_tell 36 = .ok (.bipush (-3), 2) := by decide +kernel
theorem dX6_tell_38 : decode cX6_tell 38 = .ok (.ireturn, 1) := by decide +kernel
theorem dX6_tell_39 : decode cX6_tell 39 = .ok (.aload_n 0, 1) := by decide +kernel
theorem dX6_tell_40 : decode cX6_tell 40 = .ok (.getfield 19, 3) := by decide +kernel
theorem dX6_tell_43 : decode cX6_tell 43 = .ok (.iload_n 1, 1) := by decide +kernel
theorem dX6_tell_44 : decode cX6_tell 44 = .ok (.iaload, 1) := by decide +kernel
theorem dX6_tell_45 : decode cX6_tell 45 = .ok (.invokestatic 89, 3) := by decide +kernel
theorem dX6_tell_48 : decode cX6_tell 48 = .ok (.bipush 6, 2) := by decide +kernel
theorem dX6_tell_50 : decode cX6_tell 50 = .ok (.if_icmp .ne 6, 3) := by decide +kernel
theorem dX6_tell_53 : decode cX6_tell 53 = .ok (.bipush (-4), 2) := by decide +kernel
theorem dX6_tell_55 : decode cX6_tell 55 = .ok (.ireturn, 1) := by decide +kernel
theorem dX6_tell_56 : decode cX6_tell 56 = .ok (.aload_n 0, 1) := by decide +kernel
theorem dX6_tell_57 : decode cX6_tell 57 = .ok (.getfield 19, 3) := by decide +kernel
theorem dX6_tell_60 : decode cX6_tell 60 = .ok (.iload_n 1, 1) := by decide +kernel
theorem dX6_tell_61 : decode cX6_tell 61 = .ok (.aload_n 0, 1) := by decide +kernel
theorem dX6_tell_62 : decode cX6_tell 62 = .ok (.getfield 19, 3) := by decide +kernel
theorem dX6_tell_65 : decode cX6_tell 65 = .ok (.iload_n 1, 1) := by decide +kernel
theorem dX6_tell_66 : decode cX6_tell 66 = .ok (.iaload, 1) := by decide +kernel
theorem dX6_tell_67 : decode cX6_tell 67 = .ok (.iload_n 2, 1) := by decide +kernel
theorem dX6_tell_68 : decode cX6_tell 68 = .ok (.invokestatic 99, 3) := by decide +kernel
theorem dX6_tell_71 : decode cX6_tell 71 = .ok (.iastore, 1) := by decide +kernel
theorem dX6_tell_72 : decode cX6_tell 72 = .ok (.aload_n 0, 1) := by decide +kernel
theorem dX6_tell_73 : decode cX6_tell 73 = .ok (.getfield 19, 3) := by decide +kernel
theorem dX6_tell_76 : decode cX6_tell 76 = .ok (.iload_n 1, 1) := by decide +kernel
theorem dX6_tell_77 : decode cX6_tell 77 = .ok (.iaload, 1) := by decide +kernel
theorem dX6_tell_78 : decode cX6_tell 78 = .ok (.invokestatic 89, 3) := by decide +kernel
theorem dX6_tell_81 : decode cX6_tell 81 = .ok (.ireturn, 1) := by decide +kernel
set_option maxRecDepth 20000 in
theorem ggX6_untell_X6_isClerk : GoodIn wsX6_untell wsX6_isClerk := goodIn_r _ [6, 7, 8, 9, 5, 10, 18, 19, 20, 21, 22, 23, 24, 25, 26, 27, 28, 29, 30, 31, 32, 33, 34, 35, 36] (by decide +kernel) (by decide +kernel)
set_option maxRecDepth 20000 in
theorem gX6_untell_X6_isClerk : GoodIn wsX6_untell (wsV RX6 106 RX6 yX6_isClerk wsX6_isClerk) := goodIn_app (goodIn_of _ (by decide +kernel)) ggX6_untell_X6_isClerk
set_option maxRecDepth 20000 in
theorem ggX6_untell_X6_toldWords : GoodIn wsX6_untell wsX6_toldWords := goodIn_r _ [14, 1, 15, 16, 5, 17, 18, 19, 20, 21, 22, 23, 24, 25, 26, 27, 28, 29, 30, 31, 32, 33, 34, 35, 36] (by decide +kernel) (by decide +kernel)
set_option maxRecDepth 20000 in
theorem gX6_untell_X6_toldWords : GoodIn wsX6_untell (wsV RX6 121 RX6 yX6_toldWords wsX6_toldWords) := goodIn_app (goodIn_of _ (by decide +kernel)) ggX6_untell_X6_toldWords
theorem dX6_untell_0 : decode cX6_untell 0 = .ok (.aload_n 0, 1) := by decide +kernel
theorem dX6_untell_1 : decode cX6_untell 1 = .ok (.iload_n 1, 1) := by decide +kernel
theorem dX6_untell_2 : decode cX6_untell 2 = .ok (.invokevirtual 106, 3) := by decide +kernel
theorem dX6_untell_5 : decode cX6_untell 5 = .ok (.ifCond .ne 5, 3) := by decide +kernel
theorem dX6_untell_8 : decode cX6_untell 8 = .ok (.iconst (-1), 1) := by decide +kernel
theorem dX6_untell_9 : decode cX6_untell 9 = .ok (.ireturn, 1) := by decide +kernel
theorem dX6_untell_10 : decode cX6_untell 10 = .ok (.aload_n 0, 1) := by decide +kernel
theorem dX6_untell_11 : decode cX6_untell 11 = .ok (.iload_n 1, 1) := by decide +kernel
theorem dX6_untell_12 : decode cX6_untell 12 = .ok (.invokevirtual 121, 3) := by decide +kernel
theorem dX6_untell_15 : decode cX6_untell 15 = .ok (.istore_n 2, 1) := by decide +kernel
theorem dX6_untell_16 : decode cX6_untell 16 = .ok (.aload_n 0, 1) := by decide +kernel
theorem dX6_untell_17 : decode cX6_untell 17 = .ok (.getfield 19, 3) := by decide +kernel
theorem dX6_untell_20 : decode cX6_untell 20 = .ok (.iload_n 1, 1) := by decide +kernel
theorem dX6_untell_21 : decode cX6_untell 21 = .ok (.bipush (-9), 2) := by decide +kernel
theorem dX6_untell_23 : decode cX6_untell 23 = .ok (.iastore, 1) := by decide +kernel
theorem dX6_untell_24 : decode cX6_untell 24 = .ok (.iload_n 2, 1) := by decide +kernel
theorem dX6_untell_25 : decode cX6_untell 25 = .ok (.ireturn, 1) := by decide +kernel
set_option maxRecDepth 20000 in
theorem ggX6_isFit_X6_layPages : GoodIn wsX6_isFit wsX6_layPages := goodIn_r _ [8, 1, 9, 3, 10, 11, 12, 13, 7, 14, 15, 16, 17, 18, 19, 20, 21, 22, 23, 24, 25, 26, 27, 28, 29, 30, 31, 32, 33, 34, 35, 36, 37, 38, 39, 40, 41, 42, 43, 44, 45] (by decide +kernel) (by decide +kernel)
set_option maxRecDepth 20000 in
theorem gX6_isFit_X6_layPages : GoodIn wsX6_isFit (wsV RX6 109 RX6 yX6_layPages wsX6_layPages) := goodIn_app (goodIn_of _ (by decide +kernel)) ggX6_isFit_X6_layPages
theorem dX6_isFit_0 : decode cX6_isFit 0 = .ok (.aload_n 0, 1) := by decide +kernel
theorem dX6_isFit_1 : decode cX6_isFit 1 = .ok (.iload_n 1, 1) := by decide +kernel
theorem dX6_isFit_2 : decode cX6_isFit 2 = .ok (.bipush (-9), 2) := by decide +kernel
theorem dX6_isFit_4 : decode cX6_isFit 4 = .ok (.invokevirtual 109, 3) := by decide +kernel
theorem dX6_isFit_7 : decode cX6_isFit 7 = .ok (.iconst 1, 1) := by decide +kernel
theorem dX6_isFit_8 : decode cX6_isFit 8 = .ok (.istore_n 2, 1) := by decide +kernel
theorem dX6_isFit_9 : decode cX6_isFit 9 = .ok (.iconst 0, 1) := by decide +kernel
theorem dX6_isFit_10 : decode cX6_isFit 10 = .ok (.istore_n 3, 1) := by decide +kernel
theorem dX6_isFit_11 : decode cX6_isFit 11 = .ok (.iload_n 3, 1) := by decide +kernel
theorem dX6_isFit_12 : decode cX6_isFit 12 = .ok (.aload_n 0, 1) := by decide +kernel
theorem dX6_isFit_13 : decode cX6_isFit 13 = .ok (.getfield 79, 3) := by decide +kernel
theorem dX6_isFit_16 : decode cX6_isFit 16 = .ok (.if_icmp .ge 45, 3) := by decide +kernel
theorem dX6_isFit_19 : decode cX6_isFit 19 = .ok (.iload_n 2, 1) := by decide +kernel
theorem dX6_isFit_20 : decode cX6_isFit 20 = .ok (.ifCond .eq 33, 3) := by decide +kernel
theorem dX6_isFit_23 : decode cX6_isFit 23 = .ok (.aload_n 0, 1) := by decide +kernel
theorem dX6_isFit_24 : decode cX6_isFit 24 = .ok (.getfield 19, 3) := by decide +kernel
theorem dX6_isFit_27 : decode cX6_isFit 27 = .ok (.iload_n 3, 1) := by decide +kernel
theorem dX6_isFit_28 : decode cX6_isFit 28 = .ok (.iaload, 1) := by decide +kernel
theorem dX6_isFit_29 : decode cX6_isFit 29 = .ok (.bipush (-9), 2) := by decide +kernel
theorem dX6_isFit_31 : decode cX6_isFit 31 = .ok (.if_icmp .eq 18, 3) := by decide +kernel
theorem dX6_isFit_34 : decode cX6_isFit 34 = .ok (.aload_n 0, 1) := by decide +kernel
theorem dX6_isFit_35 : decode cX6_isFit 35 = .ok (.getfield 19, 3) := by decide +kernel
theorem dX6_isFit_38 : decode cX6_isFit 38 = .ok (.iload_n 3, 1) := by decide +kernel
theorem dX6_isFit_39 : decode cX6_isFit 39 = .ok (.iaload, 1) := by decide +kernel
theorem dX6_isFit_40 : decode cX6_isFit 40 = .ok (.aload_n 0, 1) := by decide +kernel
theorem dX6_isFit_41 : decode cX6_isFit 41 = .ok (.getfield 25, 3) := by decide +kernel
theorem dX6_isFit_44 : decode cX6_isFit 44 = .ok (.iload_n 3, 1) := by decide +kernel
theorem dX6_isFit_45 : decode cX6_isFit 45 = .ok (.iaload, 1) := by decide +kernel
theorem dX6_isFit_46 : decode cX6_isFit 46 = .ok (.if_icmp .ne 7, 3) := by decide +kernel
theorem dX6_isFit_49 : decode cX6_isFit 49 = .ok (.iconst 1, 1) := by decide +kernel
theorem dX6_isFit_50 : decode cX6_isFit 50 = .ok (.goto 4, 3) := by decide +kernel
theorem dX6_isFit_53 : decode cX6_isFit 53 = .ok (.iconst 0, 1) := by decide +kernel
theorem dX6_isFit_54 : decode cX6_isFit 54 = .ok (.istore_n 2, 1) := by decide +kernel
theorem dX6_isFit_55 : decode cX6_isFit 55 = .ok (.iinc 3 1, 3) := by decide +kernel
theorem dX6_isFit_58 : decode cX6_isFit 58 = .ok (.goto (-47), 3) := by decide +kernel
theorem dX6_isFit_61 : decode cX6_isFit 61 = .ok (.iload_n 2, 1) := by decide +kernel
theorem dX6_isFit_62 : decode cX6_isFit 62 = .ok (.ireturn, 1) := by decide +kernel
set_option maxRecDepth 20000 in
theorem ggX6_fits_X6_in : GoodIn wsX6_fits wsX6_in := goodIn_r _ [5] (by decide +kernel) (by decide +kernel)
set_option maxRecDepth 20000 in
theorem gX6_fits_X6_in : GoodIn wsX6_fits (va_wsS RX6 52 yX6_in wsX6_in) := goodIn_app (goodIn_of _ (by decide +kernel)) ggX6_fits_X6_in
set_option maxRecDepth 20000 in
theorem ggX6_fits_X6_fourTo : GoodIn wsX6_fits wsX6_fourTo := goodIn_r _ [8] (by decide +kernel) (by decide +kernel)
set_option maxRecDepth 20000 in
theorem gX6_fits_X6_fourTo : GoodIn wsX6_fits (va_wsS RX6 93 yX6_fourTo wsX6_fourTo) := goodIn_app (goodIn_of _ (by decide +kernel)) ggX6_fits_X6_fourTo
set_option maxRecDepth 20000 in
theorem ggX6_fits_X6_isFit : GoodIn wsX6_fits wsX6_isFit := goodIn_r _ [12, 13, 14, 15, 16, 17, 18, 4, 19, 20, 21, 22, 23, 24, 25, 26, 27, 28, 29, 30, 31, 6, 7, 8, 32, 33, 34, 35, 36, 37, 38, 39, 40, 41, 42, 43, 44, 45, 46, 47, 48, 49, 50, 51, 52, 53] (by decide +kernel) (by decide +kernel)
set_option maxRecDepth 20000 in
theorem gX6_fits_X6_isFit : GoodIn wsX6_fits (wsV RX6 126 RX6 yX6_isFit wsX6_isFit) := goodIn_app (goodIn_of _ (by decide +kernel)) ggX6_fits_X6_isFit
theorem dX6_fits_0 : decode cX6_fits 0 = .ok (.iload_n 1, 1) := by decide +kernel
theorem dX6_fits_1 : decode cX6_fits 1 = .ok (.i2l, 1) := by decide +kernel
theorem dX6_fits_2 : decode cX6_fits 2 = .ok (.lconst 0, 1) := by decide +kernel
theorem dX6_fits_3 : decode cX6_fits 3 = .ok (.ldc2_w 124, 3) := by decide +kernel
theorem dX6_fits_6 : decode cX6_fits 6 = .ok (.invokestatic 52, 3) := by decide +kernel
theorem dX6_fits_9 : decode cX6_fits 9 = .ok (.ifCond .ne 6, 3) := by decide +kernel
theorem dX6_fits_12 : decode cX6_fits 12 = .ok (.bipush (-2), 2) := by decide +kernel
theorem dX6_fits_14 : decode cX6_fits 14 = .ok (.ireturn, 1) := by decide +kernel
theorem dX6_fits_15 : decode cX6_fits 15 = .ok (.iconst 0, 1) := by decide +kernel
theorem dX6_fits_16 : decode cX6_fits 16 = .ok (.istore_n 2, 1) := by decide +kernel
theorem dX6_fits_17 : decode cX6_fits 17 = .ok (.iconst 0, 1) := by decide +kernel
theorem dX6_fits_18 : decode cX6_fits 18 = .ok (.istore_n 3, 1) := by decide +kernel
theorem dX6_fits_19 : decode cX6_fits 19 = .ok (.iload_n 3, 1) := by decide +kernel
theorem dX6_fits_20 : decode cX6_fits 20 = .ok (.iload_n 1, 1) := by decide +kernel
theorem dX6_fits_21 : decode cX6_fits 21 = .ok (.invokestatic 93, 3) := by decide +kernel
theorem dX6_fits_24 : decode cX6_fits 24 = .ok (.if_icmp .ge 31, 3) := by decide +kernel
theorem dX6_fits_27 : decode cX6_fits 27 = .ok (.iload_n 2, 1) := by decide +kernel
theorem dX6_fits_28 : decode cX6_fits 28 = .ok (.aload_n 0, 1) := by decide +kernel
theorem dX6_fits_29 : decode cX6_fits 29 = .ok (.iload_n 1, 1) := by decide +kernel
theorem dX6_fits_30 : decode cX6_fits 30 = .ok (.sipush 4096, 3) := by decide +kernel
theorem dX6_fits_33 : decode cX6_fits 33 = .ok (.imul, 1) := by decide +kernel
theorem dX6_fits_34 : decode cX6_fits 34 = .ok (.iload_n 3, 1) := by decide +kernel
theorem dX6_fits_35 : decode cX6_fits 35 = .ok (.iadd, 1) := by decide +kernel
theorem dX6_fits_36 : decode cX6_fits 36 = .ok (.invokevirtual 126, 3) := by decide +kernel
theorem dX6_fits_39 : decode cX6_fits 39 = .ok (.ifCond .eq 7, 3) := by decide +kernel
theorem dX6_fits_42 : decode cX6_fits 42 = .ok (.iconst 1, 1) := by decide +kernel
theorem dX6_fits_43 : decode cX6_fits 43 = .ok (.goto 4, 3) := by decide +kernel
theorem dX6_fits_46 : decode cX6_fits 46 = .ok (.iconst 0, 1) := by decide +kernel
theorem dX6_fits_47 : decode cX6_fits 47 = .ok (.iadd, 1) := by decide +kernel
theorem dX6_fits_48 : decode cX6_fits 48 = .ok (.istore_n 2, 1) := by decide +kernel
theorem dX6_fits_49 : decode cX6_fits 49 = .ok (.iinc 3 1, 3) := by decide +kernel
theorem dX6_fits_52 : decode cX6_fits 52 = .ok (.goto (-33), 3) := by decide +kernel
theorem dX6_fits_55 : decode cX6_fits 55 = .ok (.iload_n 2, 1) := by decide +kernel
theorem dX6_fits_56 : decode cX6_fits 56 = .ok (.ireturn, 1) := by decide +kernel
set_option maxRecDepth 20000 in
theorem ggX6_leastFit_X6_fourTo : GoodIn wsX6_leastFit wsX6_fourTo := goodIn_r _ [4] (by decide +kernel) (by decide +kernel)
set_option maxRecDepth 20000 in
theorem gX6_leastFit_X6_fourTo : GoodIn wsX6_leastFit (va_wsS RX6 93 yX6_fourTo wsX6_fourTo) := goodIn_app (goodIn_of _ (by decide +kernel)) ggX6_leastFit_X6_fourTo
set_option maxRecDepth 20000 in
theorem ggX6_leastFit_X6_isFit : GoodIn wsX6_leastFit wsX6_isFit := goodIn_r _ [8, 9, 10, 11, 12, 13, 14, 3, 15, 16, 17, 18, 19, 20, 21, 22, 23, 24, 25, 26, 27, 1, 2, 4, 28, 29, 30, 31, 32, 33, 34, 35, 36, 37, 38, 39, 40, 41, 42, 43, 44, 45, 46, 47, 48, 49] (by decide +kernel) (by decide +kernel)
set_option maxRecDepth 20000 in
theorem gX6_leastFit_X6_isFit : GoodIn wsX6_leastFit (wsV RX6 126 RX6 yX6_isFit wsX6_isFit) := goodIn_app (goodIn_of _ (by decide +kernel)) ggX6_leastFit_X6_isFit
theorem dX6_leastFit_0 : decode cX6_leastFit 0 = .ok (.iconst 0, 1) := by decide +kernel
theorem dX6_leastFit_1 : decode cX6_leastFit 1 = .ok (.istore_n 2, 1) := by decide +kernel
theorem dX6_leastFit_2 : decode cX6_leastFit 2 = .ok (.iload_n 2, 1) := by decide +kernel
theorem dX6_leastFit_3 : decode cX6_leastFit 3 = .ok (.iload_n 1, 1) := by decide +kernel
theorem dX6_leastFit_4 : decode cX6_leastFit 4 = .ok (.invokestatic 93, 3) := by decide +kernel
theorem dX6_leastFit_7 : decode cX6_leastFit 7 = .ok (.if_icmp .ge 31, 3) := by decide +kernel
theorem dX6_leastFit_10 : decode cX6_leastFit 10 = .ok (.aload_n 0, 1) := by decide +kernel
theorem dX6_leastFit_11 : decode cX6_leastFit 11 = .ok (.iload_n 1, 1) := by decide +kernel
theorem dX6_leastFit_12 : decode cX6_leastFit 12 = .ok (.sipush 4096, 3) := by decide +kernel
theorem dX6_leastFit_15 : decode cX6_leastFit 15 = .ok (.imul, 1) := by decide +kernel
theorem dX6_leastFit_16 : decode cX6_leastFit 16 = .ok (.iload_n 2, 1) := by decide +kernel
theorem dX6_leastFit_17 : decode cX6_leastFit 17 = .ok (.iadd, 1) := by decide +kernel
theorem dX6_leastFit_18 : decode cX6_leastFit 18 = .ok (.invokevirtual 126, 3) := by decide +kernel
theorem dX6_leastFit_21 : decode cX6_leastFit 21 = .ok (.ifCond .eq 11, 3) := by decide +kernel
theorem dX6_leastFit_24 : decode cX6_leastFit 24 = .ok (.iload_n 1, 1) := by decide +kernel
theorem dX6_leastFit_25 : decode cX6_leastFit 25 = .ok (.sipush 4096, 3) := by decide +kernel
theorem dX6_leastFit_28 : decode cX6_leastFit 28 = .ok (.imul, 1) := by decide +kernel
theorem dX6_leastFit_29 : decode cX6_leastFit 29 = .ok (.iload_n 2, 1) := by decide +kernel
theorem dX6_leastFit_30 : decode cX6_leastFit 30 = .ok (.iadd, 1) := by decide +kernel
theorem dX6_leastFit_31 : decode cX6_leastFit 31 = .ok (.ireturn, 1) := by decide +kernel
theorem dX6_leastFit_32 : decode cX6_leastFit 32 = .ok (.iinc 2 1, 3) := by decide +kernel
theorem dX6_leastFit_35 : decode cX6_leastFit 35 = .ok (.goto (-33), 3) := by decide +kernel
theorem dX6_leastFit_38 : decode cX6_leastFit 38 = .ok (.bipush (-9), 2) := by decide +kernel
theorem dX6_leastFit_40 : decode cX6_leastFit 40 = .ok (.ireturn, 1) := by decide +kernel
set_option maxRecDepth 20000 in
theorem ggX6_least_X6_in : GoodIn wsX6_least wsX6_in := goodIn_r _ [6] (by decide +kernel) (by decide +kernel)
set_option maxRecDepth 20000 in
theorem gX6_least_X6_in : GoodIn wsX6_least (va_wsS RX6 52 yX6_in wsX6_in) := goodIn_app (goodIn_of _ (by decide +kernel)) ggX6_least_X6_in
set_option maxRecDepth 20000 in
theorem ggX6_least_X6_leastFit : GoodIn wsX6_least wsX6_leastFit := goodIn_r _ [10, 11, 12, 5, 13, 14, 15, 16, 17, 18, 19, 20, 21, 22, 23, 24, 25, 26, 27, 28, 29, 30, 31, 32, 33, 34, 35, 36, 37, 38, 39, 40, 41, 42, 43, 44, 45, 46, 47, 48, 49, 50, 51, 52, 53, 54, 55, 56, 57, 58] (by decide +kernel) (by decide +kernel)
set_option maxRecDepth 20000 in
theorem gX6_least_X6_leastFit : GoodIn wsX6_least (wsV RX6 129 RX6 yX6_leastFit wsX6_leastFit) := goodIn_app (goodIn_of _ (by decide +kernel)) ggX6_least_X6_leastFit
set_option maxRecDepth 20000 in
theorem ggX6_least_X6_wordAt : GoodIn wsX6_least wsX6_wordAt := goodIn_r _ [36, 31, 32, 5, 33, 11, 12, 13] (by decide +kernel) (by decide +kernel)
set_option maxRecDepth 20000 in
theorem gX6_least_X6_wordAt : GoodIn wsX6_least (va_wsS RX6 96 yX6_wordAt wsX6_wordAt) := goodIn_app (goodIn_of _ (by decide +kernel)) ggX6_least_X6_wordAt
theorem dX6_least_0 : decode cX6_least 0 = .ok (.iload_n 1, 1) := by decide +kernel
theorem dX6_least_1 : decode cX6_least 1 = .ok (.i2l, 1) := by decide +kernel
theorem dX6_least_2 : decode cX6_least 2 = .ok (.lconst 0, 1) := by decide +kernel
theorem dX6_least_3 : decode cX6_least 3 = .ok (.ldc2_w 124, 3) := by decide +kernel
theorem dX6_least_6 : decode cX6_least 6 = .ok (.invokestatic 52, 3) := by decide +kernel
theorem dX6_least_9 : decode cX6_least 9 = .ok (.ifCond .ne 6, 3) := by decide +kernel
theorem dX6_least_12 : decode cX6_least 12 = .ok (.bipush (-2), 2) := by decide +kernel
theorem dX6_least_14 : decode cX6_least 14 = .ok (.ireturn, 1) := by decide +kernel
theorem dX6_least_15 : decode cX6_least 15 = .ok (.aload_n 0, 1) := by decide +kernel
theorem dX6_least_16 : decode cX6_least 16 = .ok (.aload_n 0, 1) := by decide +kernel
theorem dX6_least_17 : decode cX6_least 17 = .ok (.iload_n 1, 1) := by decide +kernel
theorem dX6_least_18 : decode cX6_least 18 = .ok (.invokevirtual 129, 3) := by decide +kernel
theorem dX6_least_21 : decode cX6_least 21 = .ok (.putfield 132, 3) := by decide +kernel
theorem dX6_least_24 : decode cX6_least 24 = .ok (.aload_n 0, 1) := by decide +kernel
theorem dX6_least_25 : decode cX6_least 25 = .ok (.getfield 132, 3) := by decide +kernel
theorem dX6_least_28 : decode cX6_least 28 = .ok (.bipush (-9), 2) := by decide +kernel
theorem dX6_least_30 : decode cX6_least 30 = .ok (.if_icmp .ne 6, 3) := by decide +kernel
theorem dX6_least_33 : decode cX6_least 33 = .ok (.bipush (-9), 2) := by decide +kernel
theorem dX6_least_35 : decode cX6_least 35 = .ok (.ireturn, 1) := by decide +kernel
theorem dX6_least_36 : decode cX6_least 36 = .ok (.iconst 0, 1) := by decide +kernel
theorem dX6_least_37 : decode cX6_least 37 = .ok (.istore_n 2, 1) := by decide +kernel
theorem dX6_least_38 : decode cX6_least 38 = .ok (.iconst 0, 1) := by decide +kernel
theorem dX6_least_39 : decode cX6_least 39 = .ok (.istore_n 3, 1) := by decide +kernel
theorem dX6_least_40 : decode cX6_least 40 = .ok (.iload_n 3, 1) := by decide +kernel
theorem dX6_least_41 : decode cX6_least 41 = .ok (.iload_n 1, 1) := by decide +kernel
theorem dX6_least_42 : decode cX6_least 42 = .ok (.if_icmp .ge 25, 3) := by decide +kernel
theorem dX6_least_45 : decode cX6_least 45 = .ok (.bipush 10, 2) := by decide +kernel
theorem dX6_least_47 : decode cX6_least 47 = .ok (.iload_n 2, 1) := by decide +kernel
theorem dX6_least_48 : decode cX6_least 48 = .ok (.imul, 1) := by decide +kernel
theorem dX6_least_49 : decode cX6_least 49 = .ok (.aload_n 0, 1) := by decide +kernel
theorem dX6_least_50 : decode cX6_least 50 = .ok (.getfield 132, 3) := by decide +kernel
theorem dX6_least_53 : decode cX6_least 53 = .ok (.iload_n 3, 1) := by decide +kernel
theorem dX6_least_54 : decode cX6_least 54 = .ok (.invokestatic 96, 3) := by decide +kernel
theorem dX6_least_57 : decode cX6_least 57 = .ok (.iadd, 1) := by decide +kernel
theorem dX6_least_58 : decode cX6_least 58 = .ok (.iconst 1, 1) := by decide +kernel
theorem dX6_least_59 : decode cX6_least 59 = .ok (.iadd, 1) := by decide +kernel
theorem dX6_least_60 : decode cX6_least 60 = .ok (.istore_n 2, 1) := by decide +kernel
theorem dX6_least_61 : decode cX6_least 61 = .ok (.iinc 3 1, 3) := by decide +kernel
theorem dX6_least_64 : decode cX6_least 64 = .ok (.goto (-24), 3) := by decide +kernel
theorem dX6_least_67 : decode cX6_least 67 = .ok (.iload_n 2, 1) := by decide +kernel
theorem dX6_least_68 : decode cX6_least 68 = .ok (.ireturn, 1) := by decide +kernel
set_option maxRecDepth 20000 in
theorem ggX6_fitsWith_X6_fourTo : GoodIn wsX6_fitsWith wsX6_fourTo := goodIn_r _ [4] (by decide +kernel) (by decide +kernel)
set_option maxRecDepth 20000 in
theorem gX6_fitsWith_X6_fourTo : GoodIn wsX6_fitsWith (va_wsS RX6 93 yX6_fourTo wsX6_fourTo) := goodIn_app (goodIn_of _ (by decide +kernel)) ggX6_fitsWith_X6_fourTo
set_option maxRecDepth 20000 in
theorem ggX6_fitsWith_X6_wordAt : GoodIn wsX6_fitsWith wsX6_wordAt := goodIn_r _ [7, 8, 9, 3, 10, 1, 2, 4] (by decide +kernel) (by decide +kernel)
set_option maxRecDepth 20000 in
theorem gX6_fitsWith_X6_wordAt : GoodIn wsX6_fitsWith (va_wsS RX6 96 yX6_wordAt wsX6_wordAt) := goodIn_app (goodIn_of _ (by decide +kernel)) ggX6_fitsWith_X6_wordAt
set_option maxRecDepth 20000 in
theorem ggX6_fitsWith_X6_isFit : GoodIn wsX6_fitsWith wsX6_isFit := goodIn_r _ [14, 15, 16, 17, 18, 19, 20, 3, 21, 22, 23, 24, 25, 26, 27, 8, 9, 10, 5, 6, 7, 1, 2, 4, 28, 29, 30, 31, 32, 33, 34, 35, 36, 37, 38, 39, 40, 41, 42, 43, 44, 45, 46, 47, 48, 49] (by decide +kernel) (by decide +kernel)
set_option maxRecDepth 20000 in
theorem gX6_fitsWith_X6_isFit : GoodIn wsX6_fitsWith (wsV RX6 126 RX6 yX6_isFit wsX6_isFit) := goodIn_app (goodIn_of _ (by decide +kernel)) ggX6_fitsWith_X6_isFit
theorem dX6_fitsWith_0 : decode cX6_fitsWith 0 = .ok (.iconst 0, 1) := by decide +kernel
theorem dX6_fitsWith_1 : decode cX6_fitsWith 1 = .ok (.istore 4, 2) := by decide +kernel
theorem dX6_fitsWith_3 : decode cX6_fitsWith 3 = .ok (.iconst 0, 1) := by decide +kernel
theorem dX6_fitsWith_4 : decode cX6_fitsWith 4 = .ok (.istore 5, 2) := by decide +kernel
theorem dX6_fitsWith_6 : decode cX6_fitsWith 6 = .ok (.iload 5, 2) := by decide +kernel
theorem dX6_fitsWith_8 : decode cX6_fitsWith 8 = .ok (.iload_n 1, 1) := by decide +kernel
theorem dX6_fitsWith_9 : decode cX6_fitsWith 9 = .ok (.invokestatic 93, 3) := by decide +kernel
theorem dX6_fitsWith_12 : decode cX6_fitsWith 12 = .ok (.if_icmp .ge 50, 3) := by decide +kernel
theorem dX6_fitsWith_15 : decode cX6_fitsWith 15 = .ok (.iload 4, 2) := by decide +kernel
theorem dX6_fitsWith_17 : decode cX6_fitsWith 17 = .ok (.iload_n 1, 1) := by decide +kernel
theorem dX6_fitsWith_18 : decode cX6_fitsWith 18 = .ok (.sipush 4096, 3) := by decide +kernel
theorem dX6_fitsWith_21 : decode cX6_fitsWith 21 = .ok (.imul, 1) := by decide +kernel
theorem dX6_fitsWith_22 : decode cX6_fitsWith 22 = .ok (.iload 5, 2) := by decide +kernel
theorem dX6_fitsWith_24 : decode cX6_fitsWith 24 = .ok (.iadd, 1) := by decide +kernel
theorem dX6_fitsWith_25 : decode cX6_fitsWith 25 = .ok (.iload_n 2, 1) := by decide +kernel
theorem dX6_fitsWith_26 : decode cX6_fitsWith 26 = .ok (.invokestatic 96, 3) := by decide +kernel
theorem dX6_fitsWith_29 : decode cX6_fitsWith 29 = .ok (.iload_n 3, 1) := by decide +kernel
theorem dX6_fitsWith_30 : decode cX6_fitsWith 30 = .ok (.if_icmp .ne 22, 3) := by decide +kernel
theorem dX6_fitsWith_33 : decode cX6_fitsWith 33 = .ok (.aload_n 0, 1) := by decide +kernel
theorem dX6_fitsWith_34 : decode cX6_fitsWith 34 = .ok (.iload_n 1, 1) := by decide +kernel
theorem dX6_fitsWith_35 : decode cX6_fitsWith 35 = .ok (.sipush 4096, 3) := by decide +kernel
theorem dX6_fitsWith_38 : decode cX6_fitsWith 38 = .ok (.imul, 1) := by decide +kernel
theorem dX6_fitsWith_39 : decode cX6_fitsWith 39 = .ok (.iload 5, 2) := by decide +kernel
theorem dX6_fitsWith_41 : decode cX6_fitsWith 41 = .ok (.iadd, 1) := by decide +kernel
theorem dX6_fitsWith_42 : decode cX6_fitsWith 42 = .ok (.invokevirtual 126, 3) := by decide +kernel
theorem dX6_fitsWith_45 : decode cX6_fitsWith 45 = .ok (.ifCond .eq 7, 3) := by decide +kernel
theorem dX6_fitsWith_48 : decode cX6_fitsWith 48 = .ok (.iconst 1, 1) := by decide +kernel
theorem dX6_fitsWith_49 : decode cX6_fitsWith 49 = .ok (.goto 4, 3) := by decide +kernel
theorem dX6_fitsWith_52 : decode cX6_fitsWith 52 = .ok (.iconst 0, 1) := by decide +kernel
theorem dX6_fitsWith_53 : decode cX6_fitsWith 53 = .ok (.iadd, 1) := by decide +kernel
theorem dX6_fitsWith_54 : decode cX6_fitsWith 54 = .ok (.istore 4, 2) := by decide +kernel
theorem dX6_fitsWith_56 : decode cX6_fitsWith 56 = .ok (.iinc 5 1, 3) := by decide +kernel
theorem dX6_fitsWith_59 : decode cX6_fitsWith 59 = .ok (.goto (-53), 3) := by decide +kernel
theorem dX6_fitsWith_62 : decode cX6_fitsWith 62 = .ok (.iload 4, 2) := by decide +kernel
theorem dX6_fitsWith_64 : decode cX6_fitsWith 64 = .ok (.ireturn, 1) := by decide +kernel
set_option maxRecDepth 20000 in
theorem ggX6_sure_X6_in : GoodIn wsX6_sure wsX6_in := goodIn_r _ [5] (by decide +kernel) (by decide +kernel)
set_option maxRecDepth 20000 in
theorem gX6_sure_X6_in : GoodIn wsX6_sure (va_wsS RX6 52 yX6_in wsX6_in) := goodIn_app (goodIn_of _ (by decide +kernel)) ggX6_sure_X6_in
set_option maxRecDepth 20000 in
theorem ggX6_sure_X6_fits : GoodIn wsX6_sure wsX6_fits := goodIn_r _ [9, 1, 2, 3, 4, 5, 10, 11, 12, 13, 14, 15, 16, 17, 18, 19, 20, 21, 22, 23, 24, 25, 26, 27, 28, 29, 30, 31, 32, 33, 34, 35, 36, 37, 38, 43, 44, 45, 46, 47, 48, 49, 50, 51, 52, 53, 54, 55, 56, 57, 58, 59, 60, 61] (by decide +kernel) (by decide +kernel)
set_option maxRecDepth 20000 in
theorem gX6_sure_X6_fits : GoodIn wsX6_sure (wsV RX6 135 RX6 yX6_fits wsX6_fits) := goodIn_app (goodIn_of _ (by decide +kernel)) ggX6_sure_X6_fits
set_option maxRecDepth 20000 in
theorem ggX6_sure_X6_fitsWith : GoodIn wsX6_sure wsX6_fitsWith := goodIn_r _ [42, 10, 11, 4, 12, 33, 34, 35, 30, 31, 32, 13, 14, 15, 16, 17, 18, 19, 20, 21, 22, 23, 24, 25, 26, 27, 28, 29, 36, 37, 38, 43, 44, 45, 46, 47, 48, 49, 50, 51, 52, 53, 54, 55, 56, 57, 58, 59, 60, 61] (by decide +kernel) (by decide +kernel)
set_option maxRecDepth 20000 in
theorem gX6_sure_X6_fitsWith : GoodIn wsX6_sure (wsV RX6 138 RX6 yX6_fitsWith wsX6_fitsWith) := goodIn_app (goodIn_of _ (by decide +kernel)) ggX6_sure_X6_fitsWith
theorem dX6_sure_0 : decode cX6_sure 0 = .ok (.iload_n 1, 1) := by decide +kernel
theorem dX6_sure_1 : decode cX6_sure 1 = .ok (.i2l, 1) := by decide +kernel
theorem dX6_sure_2 : decode cX6_sure 2 = .ok (.lconst 1, 1) := by decide +kernel
theorem dX6_sure_3 : decode cX6_sure 3 = .ok (.ldc2_w 124, 3) := by decide +kernel
theorem dX6_sure_6 : decode cX6_sure 6 = .ok (.invokestatic 52, 3) := by decide +kernel
theorem dX6_sure_9 : decode cX6_sure 9 = .ok (.ifCond .eq 16, 3) := by decide +kernel
theorem dX6_sure_12 : decode cX6_sure 12 = .ok (.iload_n 2, 1) := by decide +kernel
theorem dX6_sure_13 : decode cX6_sure 13 = .ok (.i2l, 1) := by decide +kernel
theorem dX6_sure_14 : decode cX6_sure 14 = .ok (.lconst 0, 1) := by decide +kernel
theorem dX6_sure_15 : decode cX6_sure 15 = .ok (.iload_n 1, 1) := by decide +kernel
theorem dX6_sure_16 : decode cX6_sure 16 = .ok (.iconst 1, 1) := by decide +kernel
theorem dX6_sure_17 : decode cX6_sure 17 = .ok (.isub, 1) := by decide +kernel
theorem dX6_sure_18 : decode cX6_sure 18 = .ok (.i2l, 1) := by decide +kernel
theorem dX6_sure_19 : decode cX6_sure 19 = .ok (.invokestatic 52, 3) := by decide +kernel
theorem dX6_sure_22 : decode cX6_sure 22 = .ok (.ifCond .ne 6, 3) := by decide +kernel
theorem dX6_sure_25 : decode cX6_sure 25 = .ok (.bipush (-2), 2) := by decide +kernel
theorem dX6_sure_27 : decode cX6_sure 27 = .ok (.ireturn, 1) := by decide +kernel
theorem dX6_sure_28 : decode cX6_sure 28 = .ok (.aload_n 0, 1) := by decide +kernel
theorem dX6_sure_29 : decode cX6_sure 29 = .ok (.iload_n 1, 1) := by decide +kernel
theorem dX6_sure_30 : decode cX6_sure 30 = .ok (.invokevirtual 135, 3) := by decide +kernel
theorem dX6_sure_33 : decode cX6_sure 33 = .ok (.istore_n 3, 1) := by decide +kernel
theorem dX6_sure_34 : decode cX6_sure 34 = .ok (.iconst 0, 1) := by decide +kernel
theorem dX6_sure_35 : decode cX6_sure 35 = .ok (.istore 4, 2) := by decide +kernel
theorem dX6_sure_37 : decode cX6_sure 37 = .ok (.iload 4, 2) := by decide +kernel
theorem dX6_sure_39 : decode cX6_sure 39 = .ok (.iconst 4, 1) := by decide +kernel
theorem dX6_sure_40 : decode cX6_sure 40 = .ok (.if_icmp .ge 28, 3) := by decide +kernel
theorem dX6_sure_43 : decode cX6_sure 43 = .ok (.iload_n 3, 1) := by decide +kernel
theorem dX6_sure_44 : decode cX6_sure 44 = .ok (.ifCond .le 24, 3) := by decide +kernel
theorem dX6_sure_47 : decode cX6_sure 47 = .ok (.aload_n 0, 1) := by decide +kernel
theorem dX6_sure_48 : decode cX6_sure 48 = .ok (.iload_n 1, 1) := by decide +kernel
theorem dX6_sure_49 : decode cX6_sure 49 = .ok (.iload_n 2, 1) := by decide +kernel
theorem dX6_sure_50 : decode cX6_sure 50 = .ok (.iload 4, 2) := by decide +kernel
theorem dX6_sure_52 : decode cX6_sure 52 = .ok (.invokevirtual 138, 3) := by decide +kernel
theorem dX6_sure_55 : decode cX6_sure 55 = .ok (.iload_n 3, 1) := by decide +kernel
theorem dX6_sure_56 : decode cX6_sure 56 = .ok (.if_icmp .ne 6, 3) := by decide +kernel
theorem dX6_sure_59 : decode cX6_sure 59 = .ok (.iload 4, 2) := by decide +kernel
theorem dX6_sure_61 : decode cX6_sure 61 = .ok (.ireturn, 1) := by decide +kernel
theorem dX6_sure_62 : decode cX6_sure 62 = .ok (.iinc 4 1, 3) := by decide +kernel
theorem dX6_sure_65 : decode cX6_sure 65 = .ok (.goto (-28), 3) := by decide +kernel
theorem dX6_sure_68 : decode cX6_sure 68 = .ok (.bipush (-9), 2) := by decide +kernel
theorem dX6_sure_70 : decode cX6_sure 70 = .ok (.ireturn, 1) := by decide +kernel
theorem dX6_common_0 : decode cX6_common 0 = .ok (.iload_n 0, 1) := by decide +kernel
theorem dX6_common_1 : decode cX6_common 1 = .ok (.istore_n 2, 1) := by decide +kernel
theorem dX6_common_2 : decode cX6_common 2 = .ok (.iload_n 1, 1) := by decide +kernel
theorem dX6_common_3 : decode cX6_common 3 = .ok (.istore_n 3, 1) := by decide +kernel
theorem dX6_common_4 : decode cX6_common 4 = .ok (.iload_n 3, 1) := by decide +kernel
theorem dX6_common_5 : decode cX6_common 5 = .ok (.ifCond .eq 16, 3) := by decide +kernel
theorem dX6_common_8 : decode cX6_common 8 = .ok (.iload_n 2, 1) := by decide +kernel
theorem dX6_common_9 : decode cX6_common 9 = .ok (.iload_n 3, 1) := by decide +kernel
theorem dX6_common_10 : decode cX6_common 10 = .ok (.irem, 1) := by decide +kernel
theorem dX6_common_11 : decode cX6_common 11 = .ok (.istore 4, 2) := by decide +kernel
theorem dX6_common_13 : decode cX6_common 13 = .ok (.iload_n 3, 1) := by decide +kernel
theorem dX6_common_14 : decode cX6_common 14 = .ok (.istore_n 2, 1) := by decide +kernel
theorem dX6_common_15 : decode cX6_common 15 = .ok (.iload 4, 2) := by decide +kernel
theorem dX6_common_17 : decode cX6_common 17 = .ok (.istore_n 3, 1) := by decide +kernel
theorem dX6_common_18 : decode cX6_common 18 = .ok (.goto (-14), 3) := by decide +kernel
theorem dX6_common_21 : decode cX6_common 21 = .ok (.iload_n 2, 1) := by decide +kernel
theorem dX6_common_22 : decode cX6_common 22 = .ok (.ireturn, 1) := by decide +kernel
set_option maxRecDepth 20000 in
theorem ggX6_likely_X6_in : GoodIn wsX6_likely wsX6_in := goodIn_r _ [6] (by decide +kernel) (by decide +kernel)
set_option maxRecDepth 20000 in
theorem gX6_likely_X6_in : GoodIn wsX6_likely (va_wsS RX6 52 yX6_in wsX6_in) := goodIn_app (goodIn_of _ (by decide +kernel)) ggX6_likely_X6_in
set_option maxRecDepth 20000 in
theorem ggX6_likely_X6_fits : GoodIn wsX6_likely wsX6_fits := goodIn_r _ [10, 1, 3, 4, 5, 6, 11, 12, 13, 14, 15, 16, 17, 18, 19, 20, 21, 22, 23, 24, 25, 26, 27, 28, 29, 30, 31, 32, 33, 34, 35, 36, 37, 38, 39, 47, 48, 49, 50, 51, 52, 53, 54, 55, 56, 57, 58, 59, 60, 61, 62, 63, 64, 65] (by decide +kernel) (by decide +kernel)
set_option maxRecDepth 20000 in
theorem gX6_likely_X6_fits : GoodIn wsX6_likely (wsV RX6 135 RX6 yX6_fits wsX6_fits) := goodIn_app (goodIn_of _ (by decide +kernel)) ggX6_likely_X6_fits
set_option maxRecDepth 20000 in
theorem ggX6_likely_X6_fitsWith : GoodIn wsX6_likely wsX6_fitsWith := goodIn_r _ [43, 11, 12, 5, 13, 34, 35, 36, 31, 32, 33, 14, 15, 16, 17, 18, 19, 20, 21, 22, 23, 24, 25, 26, 27, 28, 29, 30, 37, 38, 39, 47, 48, 49, 50, 51, 52, 53, 54, 55, 56, 57, 58, 59, 60, 61, 62, 63, 64, 65] (by decide +kernel) (by decide +kernel)
set_option maxRecDepth 20000 in
theorem gX6_likely_X6_fitsWith : GoodIn wsX6_likely (wsV RX6 138 RX6 yX6_fitsWith wsX6_fitsWith) := goodIn_app (goodIn_of _ (by decide +kernel)) ggX6_likely_X6_fitsWith
set_option maxRecDepth 20000 in
theorem ggX6_likely_X6_common : GoodIn wsX6_likely wsX6_common := goodIn_r _ [46] (by decide +kernel) (by decide +kernel)
set_option maxRecDepth 20000 in
theorem gX6_likely_X6_common : GoodIn wsX6_likely (va_wsS RX6 142 yX6_common wsX6_common) := goodIn_app (goodIn_of _ (by decide +kernel)) ggX6_likely_X6_common
theorem dX6_likely_0 : decode cX6_likely 0 = .ok (.iload_n 1, 1) := by decide +kernel
theorem dX6_likely_1 : decode cX6_likely 1 = .ok (.i2l, 1) := by decide +kernel
theorem dX6_likely_2 : decode cX6_likely 2 = .ok (.lconst 1, 1) := by decide +kernel
theorem dX6_likely_3 : decode cX6_likely 3 = .ok (.ldc2_w 124, 3) := by decide +kernel
theorem dX6_likely_6 : decode cX6_likely 6 = .ok (.invokestatic 52, 3) := by decide +kernel
theorem dX6_likely_9 : decode cX6_likely 9 = .ok (.ifCond .eq 28, 3) := by decide +kernel
theorem dX6_likely_12 : decode cX6_likely 12 = .ok (.iload_n 2, 1) := by decide +kernel
theorem dX6_likely_13 : decode cX6_likely 13 = .ok (.i2l, 1) := by decide +kernel
theorem dX6_likely_14 : decode cX6_likely 14 = .ok (.lconst 0, 1) := by decide +kernel
theorem dX6_likely_15 : decode cX6_likely 15 = .ok (.iload_n 1, 1) := by decide +kernel
theorem dX6_likely_16 : decode cX6_likely 16 = .ok (.iconst 1, 1) := by decide +kernel
theorem dX6_likely_17 : decode cX6_likely 17 = .ok (.isub, 1) := by decide +kernel
theorem dX6_likely_18 : decode cX6_likely 18 = .ok (.i2l, 1) := by decide +kernel
theorem dX6_likely_19 : decode cX6_likely 19 = .ok (.invokestatic 52, 3) := by decide +kernel
theorem dX6_likely_22 : decode cX6_likely 22 = .ok (.ifCond .eq 15, 3) := by decide +kernel
theorem dX6_likely_25 : decode cX6_likely 25 = .ok (.iload_n 3, 1) := by decide +kernel
theorem dX6_likely_26 : decode cX6_likely 26 = .ok (.i2l, 1) := by decide +kernel
theorem dX6_likely_27 : decode cX6_likely 27 = .ok (.lconst 0, 1) := by decide +kernel
theorem dX6_likely_28 : decode cX6_likely 28 = .ok (.ldc2_w 116, 3) := by decide +kernel
theorem dX6_likely_31 : decode cX6_likely 31 = .ok (.invokestatic 52, 3) := by decide +kernel
theorem dX6_likely_34 : decode cX6_likely 34 = .ok (.ifCond .ne 6, 3) := by decide +kernel
theorem dX6_likely_37 : decode cX6_likely 37 = .ok (.bipush (-2), 2) := by decide +kernel
theorem dX6_likely_39 : decode cX6_likely 39 = .ok (.ireturn, 1) := by decide +kernel
theorem dX6_likely_40 : decode cX6_likely 40 = .ok (.aload_n 0, 1) := by decide +kernel
theorem dX6_likely_41 : decode cX6_likely 41 = .ok (.iload_n 1, 1) := by decide +kernel
theorem dX6_likely_42 : decode cX6_likely 42 = .ok (.invokevirtual 135, 3) := by decide +kernel
theorem dX6_likely_45 : decode cX6_likely 45 = .ok (.istore 5, 2) := by decide +kernel
theorem dX6_likely_47 : decode cX6_likely 47 = .ok (.iload 5, 2) := by decide +kernel
theorem dX6_likely_49 : decode cX6_likely 49 = .ok (.ifCond .ne 6, 3) := by decide +kernel
theorem dX6_likely_52 : decode cX6_likely 52 = .ok (.bipush (-3), 2) := by decide +kernel
theorem dX6_likely_54 : decode cX6_likely 54 = .ok (.ireturn, 1) := by decide +kernel
theorem dX6_likely_55 : decode cX6_likely 55 = .ok (.aload_n 0, 1) := by decide +kernel
theorem dX6_likely_56 : decode cX6_likely 56 = .ok (.iload_n 1, 1) := by decide +kernel
theorem dX6_likely_57 : decode cX6_likely 57 = .ok (.iload_n 2, 1) := by decide +kernel
theorem dX6_likely_58 : decode cX6_likely 58 = .ok (.iload_n 3, 1) := by decide +kernel
theorem dX6_likely_59 : decode cX6_likely 59 = .ok (.invokevirtual 138, 3) := by decide +kernel
theorem dX6_likely_62 : decode cX6_likely 62 = .ok (.istore 6, 2) := by decide +kernel
theorem dX6_likely_64 : decode cX6_likely 64 = .ok (.iload 6, 2) := by decide +kernel
theorem dX6_likely_66 : decode cX6_likely 66 = .ok (.iload 5, 2) := by decide +kernel
theorem dX6_likely_68 : decode cX6_likely 68 = .ok (.invokestatic 142, 3) := by decide +kernel
theorem dX6_likely_71 : decode cX6_likely 71 = .ok (.istore 7, 2) := by decide +kernel
theorem dX6_likely_73 : decode cX6_likely 73 = .ok (.iload 4, 2) := by decide +kernel
theorem dX6_likely_75 : decode cX6_likely 75 = .ok (.ifCond .eq 11, 3) := by decide +kernel
theorem dX6_likely_78 : decode cX6_likely 78 = .ok (.iload 6, 2) := by decide +kernel
theorem dX6_likely_80 : decode cX6_likely 80 = .ok (.iload 7, 2) := by decide +kernel
theorem dX6_likely_82 : decode cX6_likely 82 = .ok (.idiv, 1) := by decide +kernel
theorem dX6_likely_83 : decode cX6_likely 83 = .ok (.goto 8, 3) := by decide +kernel
theorem dX6_likely_86 : decode cX6_likely 86 = .ok (.iload 5, 2) := by decide +kernel
theorem dX6_likely_88 : decode cX6_likely 88 = .ok (.iload 7, 2) := by decide +kernel
theorem dX6_likely_90 : decode cX6_likely 90 = .ok (.idiv, 1) := by decide +kernel
theorem dX6_likely_91 : decode cX6_likely 91 = .ok (.ireturn, 1) := by decide +kernel
set_option maxRecDepth 20000 in
theorem ggX6_mostAlike_X6_fourTo : GoodIn wsX6_mostAlike wsX6_fourTo := goodIn_r _ [6] (by decide +kernel) (by decide +kernel)
set_option maxRecDepth 20000 in
theorem gX6_mostAlike_X6_fourTo : GoodIn wsX6_mostAlike (va_wsS RX6 93 yX6_fourTo wsX6_fourTo) := goodIn_app (goodIn_of _ (by decide +kernel)) ggX6_mostAlike_X6_fourTo
set_option maxRecDepth 20000 in
theorem ggX6_mostAlike_X6_isFit : GoodIn wsX6_mostAlike wsX6_isFit := goodIn_r _ [10, 11, 12, 2, 13, 14, 15, 5, 16, 17, 18, 19, 20, 21, 22, 23, 24, 25, 26, 27, 28, 3, 4, 6, 29, 30, 31, 32, 33, 34, 35, 36, 37, 38, 39, 40, 41, 42, 43, 44, 45, 46, 47, 48, 49, 50] (by decide +kernel) (by decide +kernel)
set_option maxRecDepth 20000 in
theorem gX6_mostAlike_X6_isFit : GoodIn wsX6_mostAlike (wsV RX6 126 RX6 yX6_isFit wsX6_isFit) := goodIn_app (goodIn_of _ (by decide +kernel)) ggX6_mostAlike_X6_isFit
theorem dX6_mostAlike_0 : decode cX6_mostAlike 0 = .ok (.iconst 0, 1) := by decide +kernel
theorem dX6_mostAlike_1 : decode cX6_mostAlike 1 = .ok (.istore_n 3, 1) := by decide +kernel
theorem dX6_mostAlike_2 : decode cX6_mostAlike 2 = .ok (.iload_n 3, 1) := by decide +kernel
theorem dX6_mostAlike_3 : decode cX6_mostAlike 3 = .ok (.sipush 28672, 3) := by decide +kernel
theorem dX6_mostAlike_6 : decode cX6_mostAlike 6 = .ok (.if_icmp .ge 16, 3) := by decide +kernel
theorem dX6_mostAlike_9 : decode cX6_mostAlike 9 = .ok (.aload_n 0, 1) := by decide +kernel
theorem dX6_mostAlike_10 : decode cX6_mostAlike 10 = .ok (.getfield 31, 3) := by decide +kernel
theorem dX6_mostAlike_13 : decode cX6_mostAlike 13 = .ok (.iload_n 3, 1) := by decide +kernel
theorem dX6_mostAlike_14 : decode cX6_mostAlike 14 = .ok (.iconst 0, 1) := by decide +kernel
theorem dX6_mostAlike_15 : decode cX6_mostAlike 15 = .ok (.iastore, 1) := by decide +kernel
theorem dX6_mostAlike_16 : decode cX6_mostAlike 16 = .ok (.iinc 3 1, 3) := by decide +kernel
theorem dX6_mostAlike_19 : decode cX6_mostAlike 19 = .ok (.goto (-17), 3) := by decide +kernel
theorem dX6_mostAlike_22 : decode cX6_mostAlike 22 = .ok (.iconst 0, 1) := by decide +kernel
theorem dX6_mostAlike_23 : decode cX6_mostAlike 23 = .ok (.istore_n 3, 1) := by decide +kernel
theorem dX6_mostAlike_24 : decode cX6_mostAlike 24 = .ok (.iconst 0, 1) := by decide +kernel
theorem dX6_mostAlike_25 : decode cX6_mostAlike 25 = .ok (.istore 4, 2) := by decide +kernel
theorem dX6_mostAlike_27 : decode cX6_mostAlike 27 = .ok (.iload 4, 2) := by decide +kernel
theorem dX6_mostAlike_29 : decode cX6_mostAlike 29 = .ok (.iload_n 2, 1) := by decide +kernel
theorem dX6_mostAlike_30 : decode cX6_mostAlike 30 = .ok (.invokestatic 93, 3) := by decide +kernel
theorem dX6_mostAlike_33 : decode cX6_mostAlike 33 = .ok (.if_icmp .ge 70, 3) := by decide +kernel
theorem dX6_mostAlike_36 : decode cX6_mostAlike 36 = .ok (.aload_n 0, 1) := by decide +kernel
theorem dX6_mostAlike_37 : decode cX6_mostAlike 37 = .ok (.iload_n 2, 1) := by decide +kernel
theorem dX6_mostAlike_38 : decode cX6_mostAlike 38 = .ok (.sipush 4096, 3) := by decide +kernel
theorem dX6_mostAlike_41 : decode cX6_mostAlike 41 = .ok (.imul, 1) := by decide +kernel
theorem dX6_mostAlike_42 : decode cX6_mostAlike 42 = .ok (.iload 4, 2) := by decide +kernel
theorem dX6_mostAlike_44 : decode cX6_mostAlike 44 = .ok (.iadd, 1) := by decide +kernel
theorem dX6_mostAlike_45 : decode cX6_mostAlike 45 = .ok (.invokevirtual 126, 3) := by decide +kernel
theorem dX6_mostAlike_48 : decode cX6_mostAlike 48 = .ok (.ifCond .eq 49, 3) := by decide +kernel
theorem dX6_mostAlike_51 : decode cX6_mostAlike 51 = .ok (.aload_n 0, 1) := by decide +kernel
theorem dX6_mostAlike_52 : decode cX6_mostAlike 52 = .ok (.getfield 31, 3) := by decide +kernel
theorem dX6_mostAlike_55 : decode cX6_mostAlike 55 = .ok (.aload_n 0, 1) := by decide +kernel
theorem dX6_mostAlike_56 : decode cX6_mostAlike 56 = .ok (.getfield 25, 3) := by decide +kernel
theorem dX6_mostAlike_59 : decode cX6_mostAlike 59 = .ok (.iload_n 1, 1) := by decide +kernel
theorem dX6_mostAlike_60 : decode cX6_mostAlike 60 = .ok (.iaload, 1) := by decide +kernel
theorem dX6_mostAlike_61 : decode cX6_mostAlike 61 = .ok (.dup2, 1) := by decide +kernel
theorem dX6_mostAlike_62 : decode cX6_mostAlike 62 = .ok (.iaload, 1) := by decide +kernel
theorem dX6_mostAlike_63 : decode cX6_mostAlike 63 = .ok (.iconst 1, 1) := by decide +kernel
theorem dX6_mostAlike_64 : decode cX6_mostAlike 64 = .ok (.iadd, 1) := by decide +kernel
theorem dX6_mostAlike_65 : decode cX6_mostAlike 65 = .ok (.iastore, 1) := by decide +kernel
theorem dX6_mostAlike_66 : decode cX6_mostAlike 66 = .ok (.aload_n 0, 1) := by decide +kernel
theorem dX6_mostAlike_67 : decode cX6_mostAlike 67 = .ok (.getfield 31, 3) := by decide +kernel
theorem dX6_mostAlike_70 : decode cX6_mostAlike 70 = .ok (.aload_n 0, 1) := by decide +kernel
theorem dX6_mostAlike_71 : decode cX6_mostAlike 71 = .ok (.getfield 25, 3) := by decide +kernel
theorem dX6_mostAlike_74 : decode cX6_mostAlike 74 = .ok (.iload_n 1, 1) := by decide +kernel
theorem dX6_mostAlike_75 : decode cX6_mostAlike 75 = .ok (.iaload, 1) := by decide +kernel
theorem dX6_mostAlike_76 : decode cX6_mostAlike 76 = .ok (.iaload, 1) := by decide +kernel
theorem dX6_mostAlike_77 : decode cX6_mostAlike 77 = .ok (.iload_n 3, 1) := by decide +kernel
theorem dX6_mostAlike_78 : decode cX6_mostAlike 78 = .ok (.if_icmp .le 17, 3) := by decide +kernel
theorem dX6_mostAlike_81 : decode cX6_mostAlike 81 = .ok (.aload_n 0, 1) := by decide +kernel
theorem dX6_mostAlike_82 : decode cX6_mostAlike 82 = .ok (.getfield 31, 3) := by decide +kernel
theorem dX6_mostAlike_85 : decode cX6_mostAlike 85 = .ok (.aload_n 0, 1) := by decide +kernel
theorem dX6_mostAlike_86 : decode cX6_mostAlike 86 = .ok (.getfield 25, 3) := by decide +kernel
theorem dX6_mostAlike_89 : decode cX6_mostAlike 89 = .ok (.iload_n 1, 1) := by decide +kernel
theorem dX6_mostAlike_90 : decode cX6_mostAlike 90 = .ok (.iaload, 1) := by decide +kernel
theorem dX6_mostAlike_91 : decode cX6_mostAlike 91 = .ok (.iaload, 1) := by decide +kernel
theorem dX6_mostAlike_92 : decode cX6_mostAlike 92 = .ok (.goto 4, 3) := by decide +kernel
theorem dX6_mostAlike_95 : decode cX6_mostAlike 95 = .ok (.iload_n 3, 1) := by decide +kernel
theorem dX6_mostAlike_96 : decode cX6_mostAlike 96 = .ok (.istore_n 3, 1) := by decide +kernel
theorem dX6_mostAlike_97 : decode cX6_mostAlike 97 = .ok (.iinc 4 1, 3) := by decide +kernel
theorem dX6_mostAlike_100 : decode cX6_mostAlike 100 = .ok (.goto (-73), 3) := by decide +kernel
theorem dX6_mostAlike_103 : decode cX6_mostAlike 103 = .ok (.iload_n 3, 1) := by decide +kernel
theorem dX6_mostAlike_104 : decode cX6_mostAlike 104 = .ok (.ireturn, 1) := by decide +kernel
set_option maxRecDepth 20000 in
theorem ggX6_toRead_X6_in : GoodIn wsX6_toRead wsX6_in := goodIn_r _ [7] (by decide +kernel) (by decide +kernel)
set_option maxRecDepth 20000 in
theorem gX6_toRead_X6_in : GoodIn wsX6_toRead (va_wsS RX6 52 yX6_in wsX6_in) := goodIn_app (goodIn_of _ (by decide +kernel)) ggX6_toRead_X6_in
set_option maxRecDepth 20000 in
theorem ggX6_toRead_X6_leastFit : GoodIn wsX6_toRead wsX6_leastFit := goodIn_r _ [11, 12, 13, 6, 14, 15, 16, 17, 18, 2, 3, 19, 20, 21, 22, 23, 24, 25, 26, 27, 28, 29, 30, 31, 32, 33, 34, 35, 36, 37, 38, 44, 45, 46, 47, 48, 49, 50, 51, 52, 53, 54, 55, 56, 57, 58, 59, 60, 61, 62] (by decide +kernel) (by decide +kernel)
set_option maxRecDepth 20000 in
theorem gX6_toRead_X6_leastFit : GoodIn wsX6_toRead (wsV RX6 129 RX6 yX6_leastFit wsX6_leastFit) := goodIn_app (goodIn_of _ (by decide +kernel)) ggX6_toRead_X6_leastFit
set_option maxRecDepth 20000 in
theorem ggX6_toRead_X6_mostAlike : GoodIn wsX6_toRead wsX6_mostAlike := goodIn_r _ [42, 43, 19, 12, 13, 6, 14, 15, 16, 17, 18, 2, 3, 20, 21, 22, 23, 24, 25, 26, 27, 28, 29, 30, 31, 32, 33, 34, 35, 36, 37, 38, 44, 45, 46, 47, 48, 49, 50, 51, 52, 53, 54, 55, 56, 57, 58, 59, 60, 61, 62] (by decide +kernel) (by decide +kernel)
set_option maxRecDepth 20000 in
theorem gX6_toRead_X6_mostAlike : GoodIn wsX6_toRead (wsV RX6 145 RX6 yX6_mostAlike wsX6_mostAlike) := goodIn_app (goodIn_of _ (by decide +kernel)) ggX6_toRead_X6_mostAlike
theorem dX6_toRead_0 : decode cX6_toRead 0 = .ok (.iload_n 1, 1) := by decide +kernel
theorem dX6_toRead_1 : decode cX6_toRead 1 = .ok (.i2l, 1) := by decide +kernel
theorem dX6_toRead_2 : decode cX6_toRead 2 = .ok (.lconst 0, 1) := by decide +kernel
theorem dX6_toRead_3 : decode cX6_toRead 3 = .ok (.ldc2_w 124, 3) := by decide +kernel
theorem dX6_toRead_6 : decode cX6_toRead 6 = .ok (.invokestatic 52, 3) := by decide +kernel
theorem dX6_toRead_9 : decode cX6_toRead 9 = .ok (.ifCond .ne 6, 3) := by decide +kernel
theorem dX6_toRead_12 : decode cX6_toRead 12 = .ok (.bipush (-2), 2) := by decide +kernel
theorem dX6_toRead_14 : decode cX6_toRead 14 = .ok (.ireturn, 1) := by decide +kernel
theorem dX6_toRead_15 : decode cX6_toRead 15 = .ok (.aload_n 0, 1) := by decide +kernel
theorem dX6_toRead_16 : decode cX6_toRead 16 = .ok (.iload_n 1, 1) := by decide +kernel
theorem dX6_toRead_17 : decode cX6_toRead 17 = .ok (.invokevirtual 129, 3) := by decide +kernel
theorem dX6_toRead_20 : decode cX6_toRead 20 = .ok (.bipush (-9), 2) := by decide +kernel
theorem dX6_toRead_22 : decode cX6_toRead 22 = .ok (.if_icmp .ne 6, 3) := by decide +kernel
theorem dX6_toRead_25 : decode cX6_toRead 25 = .ok (.bipush (-9), 2) := by decide +kernel
theorem dX6_toRead_27 : decode cX6_toRead 27 = .ok (.ireturn, 1) := by decide +kernel
theorem dX6_toRead_28 : decode cX6_toRead 28 = .ok (.bipush (-9), 2) := by decide +kernel
theorem dX6_toRead_30 : decode cX6_toRead 30 = .ok (.istore_n 2, 1) := by decide +kernel
theorem dX6_toRead_31 : decode cX6_toRead 31 = .ok (.iconst 0, 1) := by decide +kernel
theorem dX6_toRead_32 : decode cX6_toRead 32 = .ok (.istore_n 3, 1) := by decide +kernel
theorem dX6_toRead_33 : decode cX6_toRead 33 = .ok (.iconst 0, 1) := by decide +kernel
theorem dX6_toRead_34 : decode cX6_toRead 34 = .ok (.istore 4, 2) := by decide +kernel
theorem dX6_toRead_36 : decode cX6_toRead 36 = .ok (.iload 4, 2) := by decide +kernel
theorem dX6_toRead_38 : decode cX6_toRead 38 = .ok (.aload_n 0, 1) := by decide +kernel
theorem dX6_toRead_39 : decode cX6_toRead 39 = .ok (.getfield 79, 3) := by decide +kernel
theorem dX6_toRead_42 : decode cX6_toRead 42 = .ok (.if_icmp .ge 62, 3) := by decide +kernel
theorem dX6_toRead_45 : decode cX6_toRead 45 = .ok (.aload_n 0, 1) := by decide +kernel
theorem dX6_toRead_46 : decode cX6_toRead 46 = .ok (.getfield 19, 3) := by decide +kernel
theorem dX6_toRead_49 : decode cX6_toRead 49 = .ok (.iload 4, 2) := by decide +kernel
theorem dX6_toRead_51 : decode cX6_toRead 51 = .ok (.iaload, 1) := by decide +kernel
theorem dX6_toRead_52 : decode cX6_toRead 52 = .ok (.bipush (-9), 2) := by decide +kernel
theorem dX6_toRead_54 : decode cX6_toRead 54 = .ok (.if_icmp .ne 44, 3) := by decide +kernel
theorem dX6_toRead_57 : decode cX6_toRead 57 = .ok (.aload_n 0, 1) := by decide +kernel
theorem dX6_toRead_58 : decode cX6_toRead 58 = .ok (.iload 4, 2) := by decide +kernel
theorem dX6_toRead_60 : decode cX6_toRead 60 = .ok (.iload_n 1, 1) := by decide +kernel
theorem dX6_toRead_61 : decode cX6_toRead 61 = .ok (.invokevirtual 145, 3) := by decide +kernel
theorem dX6_toRead_64 : decode cX6_toRead 64 = .ok (.istore 5, 2) := by decide +kernel
theorem dX6_toRead_66 : decode cX6_toRead 66 = .ok (.iload_n 2, 1) := by decide +kernel
theorem dX6_toRead_67 : decode cX6_toRead 67 = .ok (.bipush (-9), 2) := by decide +kernel
theorem dX6_toRead_69 : decode cX6_toRead 69 = .ok (.if_icmp .eq 9, 3) := by decide +kernel
theorem dX6_toRead_72 : decode cX6_toRead 72 = .ok (.iload 5, 2) := by decide +kernel
theorem dX6_toRead_74 : decode cX6_toRead 74 = .ok (.iload_n 3, 1) := by decide +kernel
theorem dX6_toRead_75 : decode cX6_toRead 75 = .ok (.if_icmp .ge 8, 3) := by decide +kernel
theorem dX6_toRead_78 : decode cX6_toRead 78 = .ok (.iload 4, 2) := by decide +kernel
theorem dX6_toRead_80 : decode cX6_toRead 80 = .ok (.goto 4, 3) := by decide +kernel
theorem dX6_toRead_83 : decode cX6_toRead 83 = .ok (.iload_n 2, 1) := by decide +kernel
theorem dX6_toRead_84 : decode cX6_toRead 84 = .ok (.istore_n 2, 1) := by decide +kernel
theorem dX6_toRead_85 : decode cX6_toRead 85 = .ok (.iload_n 2, 1) := by decide +kernel
theorem dX6_toRead_86 : decode cX6_toRead 86 = .ok (.iload 4, 2) := by decide +kernel
theorem dX6_toRead_88 : decode cX6_toRead 88 = .ok (.if_icmp .ne 8, 3) := by decide +kernel
theorem dX6_toRead_91 : decode cX6_toRead 91 = .ok (.iload 5, 2) := by decide +kernel
theorem dX6_toRead_93 : decode cX6_toRead 93 = .ok (.goto 4, 3) := by decide +kernel
theorem dX6_toRead_96 : decode cX6_toRead 96 = .ok (.iload_n 3, 1) := by decide +kernel
theorem dX6_toRead_97 : decode cX6_toRead 97 = .ok (.istore_n 3, 1) := by decide +kernel
theorem dX6_toRead_98 : decode cX6_toRead 98 = .ok (.iinc 4 1, 3) := by decide +kernel
theorem dX6_toRead_101 : decode cX6_toRead 101 = .ok (.goto (-65), 3) := by decide +kernel
theorem dX6_toRead_104 : decode cX6_toRead 104 = .ok (.iload_n 2, 1) := by decide +kernel
theorem dX6_toRead_105 : decode cX6_toRead 105 = .ok (.ireturn, 1) := by decide +kernel
theorem dX6_fromOf_0 : decode cX6_fromOf 0 = .ok (.iload_n 0, 1) := by decide +kernel
theorem dX6_fromOf_1 : decode cX6_fromOf 1 = .ok (.ifCond .ne 8, 3) := by decide +kernel
theorem dX6_fromOf_4 : decode cX6_fromOf 4 = .ok (.bipush (-9), 2) := by decide +kernel
theorem dX6_fromOf_6 : decode cX6_fromOf 6 = .ok (.goto 8, 3) := by decide +kernel
theorem dX6_fromOf_9 : decode cX6_fromOf 9 = .ok (.iload_n 0, 1) := by decide +kernel
theorem dX6_fromOf_10 : decode cX6_fromOf 10 = .ok (.iconst 1, 1) := by decide +kernel
theorem dX6_fromOf_11 : decode cX6_fromOf 11 = .ok (.isub, 1) := by decide +kernel
theorem dX6_fromOf_12 : decode cX6_fromOf 12 = .ok (.iconst 3, 1) := by decide +kernel
theorem dX6_fromOf_13 : decode cX6_fromOf 13 = .ok (.idiv, 1) := by decide +kernel
theorem dX6_fromOf_14 : decode cX6_fromOf 14 = .ok (.ireturn, 1) := by decide +kernel
set_option maxRecDepth 20000 in
theorem ggX6_toOf_X6_fromOf : GoodIn wsX6_toOf wsX6_fromOf := goodIn_r _ [4] (by decide +kernel) (by decide +kernel)
set_option maxRecDepth 20000 in
theorem gX6_toOf_X6_fromOf : GoodIn wsX6_toOf (va_wsS RX6 148 yX6_fromOf wsX6_fromOf) := goodIn_app (goodIn_of _ (by decide +kernel)) ggX6_toOf_X6_fromOf
theorem dX6_toOf_0 : decode cX6_toOf 0 = .ok (.iload_n 0, 1) := by decide +kernel
theorem dX6_toOf_1 : decode cX6_toOf 1 = .ok (.ifCond .ne 6, 3) := by decide +kernel
theorem dX6_toOf_4 : decode cX6_toOf 4 = .ok (.bipush (-9), 2) := by decide +kernel
theorem dX6_toOf_6 : decode cX6_toOf 6 = .ok (.ireturn, 1) := by decide +kernel
theorem dX6_toOf_7 : decode cX6_toOf 7 = .ok (.iload_n 0, 1) := by decide +kernel
theorem dX6_toOf_8 : decode cX6_toOf 8 = .ok (.iconst 1, 1) := by decide +kernel
theorem dX6_toOf_9 : decode cX6_toOf 9 = .ok (.isub, 1) := by decide +kernel
theorem dX6_toOf_10 : decode cX6_toOf 10 = .ok (.iconst 3, 1) := by decide +kernel
theorem dX6_toOf_11 : decode cX6_toOf 11 = .ok (.irem, 1) := by decide +kernel
theorem dX6_toOf_12 : decode cX6_toOf 12 = .ok (.istore_n 1, 1) := by decide +kernel
theorem dX6_toOf_13 : decode cX6_toOf 13 = .ok (.iload_n 1, 1) := by decide +kernel
theorem dX6_toOf_14 : decode cX6_toOf 14 = .ok (.iload_n 0, 1) := by decide +kernel
theorem dX6_toOf_15 : decode cX6_toOf 15 = .ok (.invokestatic 148, 3) := by decide +kernel
theorem dX6_toOf_18 : decode cX6_toOf 18 = .ok (.if_icmp .ge 7, 3) := by decide +kernel
theorem dX6_toOf_21 : decode cX6_toOf 21 = .ok (.iload_n 1, 1) := by decide +kernel
theorem dX6_toOf_22 : decode cX6_toOf 22 = .ok (.goto 6, 3) := by decide +kernel
theorem dX6_toOf_25 : decode cX6_toOf 25 = .ok (.iload_n 1, 1) := by decide +kernel
theorem dX6_toOf_26 : decode cX6_toOf 26 = .ok (.iconst 1, 1) := by decide +kernel
theorem dX6_toOf_27 : decode cX6_toOf 27 = .ok (.iadd, 1) := by decide +kernel
theorem dX6_toOf_28 : decode cX6_toOf 28 = .ok (.ireturn, 1) := by decide +kernel
set_option maxRecDepth 20000 in
theorem ggX6_isHabit_X6_fromOf : GoodIn wsX6_isHabit wsX6_fromOf := goodIn_r _ [6] (by decide +kernel) (by decide +kernel)
set_option maxRecDepth 20000 in
theorem gX6_isHabit_X6_fromOf : GoodIn wsX6_isHabit (va_wsS RX6 148 yX6_fromOf wsX6_fromOf) := goodIn_app (goodIn_of _ (by decide +kernel)) ggX6_isHabit_X6_fromOf
set_option maxRecDepth 20000 in
theorem ggX6_isHabit_X6_toOf : GoodIn wsX6_isHabit wsX6_toOf := goodIn_r _ [9, 3, 4, 5, 6] (by decide +kernel) (by decide +kernel)
set_option maxRecDepth 20000 in
theorem gX6_isHabit_X6_toOf : GoodIn wsX6_isHabit (va_wsS RX6 151 yX6_toOf wsX6_toOf) := goodIn_app (goodIn_of _ (by decide +kernel)) ggX6_isHabit_X6_toOf
set_option maxRecDepth 20000 in
theorem ggX6_isHabit_X6_written : GoodIn wsX6_isHabit wsX6_written := goodIn_r _ [12, 13, 14, 5, 15, 16, 17, 18, 19, 20, 21, 22, 23, 24] (by decide +kernel) (by decide +kernel)
set_option maxRecDepth 20000 in
theorem gX6_isHabit_X6_written : GoodIn wsX6_isHabit (va_wsS RX6 102 yX6_written wsX6_written) := goodIn_app (goodIn_of _ (by decide +kernel)) ggX6_isHabit_X6_written
theorem dX6_isHabit_0 : decode cX6_isHabit 0 = .ok (.iload_n 2, 1) := by decide +kernel
theorem dX6_isHabit_1 : decode cX6_isHabit 1 = .ok (.bipush 10, 2) := by decide +kernel
theorem dX6_isHabit_3 : decode cX6_isHabit 3 = .ok (.idiv, 1) := by decide +kernel
theorem dX6_isHabit_4 : decode cX6_isHabit 4 = .ok (.bipush 13, 2) := by decide +kernel
theorem dX6_isHabit_6 : decode cX6_isHabit 6 = .ok (.irem, 1) := by decide +kernel
theorem dX6_isHabit_7 : decode cX6_isHabit 7 = .ok (.istore_n 3, 1) := by decide +kernel
theorem dX6_isHabit_8 : decode cX6_isHabit 8 = .ok (.iload_n 2, 1) := by decide +kernel
theorem dX6_isHabit_9 : decode cX6_isHabit 9 = .ok (.sipush 130, 3) := by decide +kernel
theorem dX6_isHabit_12 : decode cX6_isHabit 12 = .ok (.idiv, 1) := by decide +kernel
theorem dX6_isHabit_13 : decode cX6_isHabit 13 = .ok (.ifCond .ne 8, 3) := by decide +kernel
theorem dX6_isHabit_16 : decode cX6_isHabit 16 = .ok (.bipush (-9), 2) := by decide +kernel
theorem dX6_isHabit_18 : decode cX6_isHabit 18 = .ok (.goto 10, 3) := by decide +kernel
theorem dX6_isHabit_21 : decode cX6_isHabit 21 = .ok (.iload_n 2, 1) := by decide +kernel
theorem dX6_isHabit_22 : decode cX6_isHabit 22 = .ok (.sipush 130, 3) := by decide +kernel
theorem dX6_isHabit_25 : decode cX6_isHabit 25 = .ok (.idiv, 1) := by decide +kernel
theorem dX6_isHabit_26 : decode cX6_isHabit 26 = .ok (.iconst 1, 1) := by decide +kernel
theorem dX6_isHabit_27 : decode cX6_isHabit 27 = .ok (.isub, 1) := by decide +kernel
theorem dX6_isHabit_28 : decode cX6_isHabit 28 = .ok (.istore 4, 2) := by decide +kernel
theorem dX6_isHabit_30 : decode cX6_isHabit 30 = .ok (.aload_n 0, 1) := by decide +kernel
theorem dX6_isHabit_31 : decode cX6_isHabit 31 = .ok (.getfield 16, 3) := by decide +kernel
theorem dX6_isHabit_34 : decode cX6_isHabit 34 = .ok (.iconst 0, 1) := by decide +kernel
theorem dX6_isHabit_35 : decode cX6_isHabit 35 = .ok (.iaload, 1) := by decide +kernel
theorem dX6_isHabit_36 : decode cX6_isHabit 36 = .ok (.iload 4, 2) := by decide +kernel
theorem dX6_isHabit_38 : decode cX6_isHabit 38 = .ok (.iload_n 3, 1) := by decide +kernel
theorem dX6_isHabit_39 : decode cX6_isHabit 39 = .ok (.invokestatic 148, 3) := by decide +kernel
theorem dX6_isHabit_42 : decode cX6_isHabit 42 = .ok (.iload_n 3, 1) := by decide +kernel
theorem dX6_isHabit_43 : decode cX6_isHabit 43 = .ok (.invokestatic 151, 3) := by decide +kernel
theorem dX6_isHabit_46 : decode cX6_isHabit 46 = .ok (.iload_n 2, 1) := by decide +kernel
theorem dX6_isHabit_47 : decode cX6_isHabit 47 = .ok (.bipush 10, 2) := by decide +kernel
theorem dX6_isHabit_49 : decode cX6_isHabit 49 = .ok (.irem, 1) := by decide +kernel
theorem dX6_isHabit_50 : decode cX6_isHabit 50 = .ok (.invokestatic 102, 3) := by decide +kernel
theorem dX6_isHabit_53 : decode cX6_isHabit 53 = .ok (.aload_n 0, 1) := by decide +kernel
theorem dX6_isHabit_54 : decode cX6_isHabit 54 = .ok (.getfield 19, 3) := by decide +kernel
theorem dX6_isHabit_57 : decode cX6_isHabit 57 = .ok (.iload_n 1, 1) := by decide +kernel
theorem dX6_isHabit_58 : decode cX6_isHabit 58 = .ok (.iaload, 1) := by decide +kernel
theorem dX6_isHabit_59 : decode cX6_isHabit 59 = .ok (.if_icmp .ne 7, 3) := by decide +kernel
theorem dX6_isHabit_62 : decode cX6_isHabit 62 = .ok (.iconst 1, 1) := by decide +kernel
theorem dX6_isHabit_63 : decode cX6_isHabit 63 = .ok (.goto 4, 3) := by decide +kernel
theorem dX6_isHabit_66 : decode cX6_isHabit 66 = .ok (.iconst 0, 1) := by decide +kernel
theorem dX6_isHabit_67 : decode cX6_isHabit 67 = .ok (.ireturn, 1) := by decide +kernel
set_option maxRecDepth 20000 in
theorem ggX6_habits_X6_isClerk : GoodIn wsX6_habits wsX6_isClerk := goodIn_r _ [6, 7, 8, 9, 5, 10, 37, 38, 39, 40, 41, 42, 43, 44, 45, 46, 47, 48, 49, 50, 51, 52, 53, 54, 55] (by decide +kernel) (by decide +kernel)
set_option maxRecDepth 20000 in
theorem gX6_habits_X6_isClerk : GoodIn wsX6_habits (wsV RX6 106 RX6 yX6_isClerk wsX6_isClerk) := goodIn_app (goodIn_of _ (by decide +kernel)) ggX6_habits_X6_isClerk
set_option maxRecDepth 20000 in
theorem ggX6_habits_X6_isHabit : GoodIn wsX6_habits wsX6_isHabit := goodIn_r _ [14, 15, 1, 16, 17, 5, 18, 19, 20, 21, 22, 23, 24, 25, 26, 27, 28, 29, 30, 31, 32, 33, 34, 35, 36, 37, 38, 39, 40, 41, 42, 43, 44, 45, 46, 47, 48, 49, 50, 51, 52, 53, 54, 55] (by decide +kernel) (by decide +kernel)
set_option maxRecDepth 20000 in
theorem gX6_habits_X6_isHabit : GoodIn wsX6_habits (wsV RX6 154 RX6 yX6_isHabit wsX6_isHabit) := goodIn_app (goodIn_of _ (by decide +kernel)) ggX6_habits_X6_isHabit
theorem dX6_habits_0 : decode cX6_habits 0 = .ok (.aload_n 0, 1) := by decide +kernel
theorem dX6_habits_1 : decode cX6_habits 1 = .ok (.iload_n 1, 1) := by decide +kernel
theorem dX6_habits_2 : decode cX6_habits 2 = .ok (.invokevirtual 106, 3) := by decide +kernel
theorem dX6_habits_5 : decode cX6_habits 5 = .ok (.ifCond .ne 5, 3) := by decide +kernel
theorem dX6_habits_8 : decode cX6_habits 8 = .ok (.iconst (-1), 1) := by decide +kernel
theorem dX6_habits_9 : decode cX6_habits 9 = .ok (.ireturn, 1) := by decide +kernel
theorem dX6_habits_10 : decode cX6_habits 10 = .ok (.aload_n 0, 1) := by decide +kernel
theorem dX6_habits_11 : decode cX6_habits 11 = .ok (.getfield 19, 3) := by decide +kernel
theorem dX6_habits_14 : decode cX6_habits 14 = .ok (.iload_n 1, 1) := by decide +kernel
theorem dX6_habits_15 : decode cX6_habits 15 = .ok (.iaload, 1) := by decide +kernel
theorem dX6_habits_16 : decode cX6_habits 16 = .ok (.bipush (-9), 2) := by decide +kernel
theorem dX6_habits_18 : decode cX6_habits 18 = .ok (.if_icmp .ne 6, 3) := by decide +kernel
theorem dX6_habits_21 : decode cX6_habits 21 = .ok (.bipush (-3), 2) := by decide +kernel
theorem dX6_habits_23 : decode cX6_habits 23 = .ok (.ireturn, 1) := by decide +kernel
theorem dX6_habits_24 : decode cX6_habits 24 = .ok (.iconst 0, 1) := by decide +kernel
theorem dX6_habits_25 : decode cX6_habits 25 = .ok (.istore_n 2, 1) := by decide +kernel
theorem dX6_habits_26 : decode cX6_habits 26 = .ok (.iconst 0, 1) := by decide +kernel
theorem dX6_habits_27 : decode cX6_habits 27 = .ok (.istore_n 3, 1) := by decide +kernel
theorem dX6_habits_28 : decode cX6_habits 28 = .ok (.iload_n 3, 1) := by decide +kernel
theorem dX6_habits_29 : decode cX6_habits 29 = .ok (.sipush 650, 3) := by decide +kernel
theorem dX6_habits_32 : decode cX6_habits 32 = .ok (.if_icmp .ge 26, 3) := by decide +kernel
theorem dX6_habits_35 : decode cX6_habits 35 = .ok (.iload_n 2, 1) := by decide +kernel
theorem dX6_habits_36 : decode cX6_habits 36 = .ok (.aload_n 0, 1) := by decide +kernel
theorem dX6_habits_37 : decode cX6_habits 37 = .ok (.iload_n 1, 1) := by decide +kernel
theorem dX6_habits_38 : decode cX6_habits 38 = .ok (.iload_n 3, 1) := by decide +kernel
theorem dX6_habits_39 : decode cX6_habits 39 = .ok (.invokevirtual 154, 3) := by decide +kernel
theorem dX6_habits_42 : decode cX6_habits 42 = .ok (.ifCond .eq 7, 3) := by decide +kernel
theorem dX6_habits_45 : decode cX6_habits 45 = .ok (.iconst 1, 1) := by decide +kernel
theorem dX6_habits_46 : decode cX6_habits 46 = .ok (.goto 4, 3) := by decide +kernel
theorem dX6_habits_49 : decode cX6_habits 49 = .ok (.iconst 0, 1) := by decide +kernel
theorem dX6_habits_50 : decode cX6_habits 50 = .ok (.iadd, 1) := by decide +kernel
theorem dX6_habits_51 : decode cX6_habits 51 = .ok (.istore_n 2, 1) := by decide +kernel
theorem dX6_habits_52 : decode cX6_habits 52 = .ok (.iinc 3 1, 3) := by decide +kernel
theorem dX6_habits_55 : decode cX6_habits 55 = .ok (.goto (-27), 3) := by decide +kernel
theorem dX6_habits_58 : decode cX6_habits 58 = .ok (.iload_n 2, 1) := by decide +kernel
theorem dX6_habits_59 : decode cX6_habits 59 = .ok (.ireturn, 1) := by decide +kernel
set_option maxRecDepth 20000 in
theorem ggX6_habit_X6_isClerk : GoodIn wsX6_habit wsX6_isClerk := goodIn_r _ [6, 7, 8, 9, 5, 10, 37, 38, 39, 40, 41, 42, 43, 44, 45, 46, 47, 48, 49, 50, 51, 52, 53, 54, 55] (by decide +kernel) (by decide +kernel)
set_option maxRecDepth 20000 in
theorem gX6_habit_X6_isClerk : GoodIn wsX6_habit (wsV RX6 106 RX6 yX6_isClerk wsX6_isClerk) := goodIn_app (goodIn_of _ (by decide +kernel)) ggX6_habit_X6_isClerk
set_option maxRecDepth 20000 in
theorem ggX6_habit_X6_isHabit : GoodIn wsX6_habit wsX6_isHabit := goodIn_r _ [14, 15, 1, 16, 17, 5, 18, 19, 20, 21, 22, 23, 24, 25, 26, 27, 28, 29, 30, 31, 32, 33, 34, 35, 36, 37, 38, 39, 40, 41, 42, 43, 44, 45, 46, 47, 48, 49, 50, 51, 52, 53, 54, 55] (by decide +kernel) (by decide +kernel)
set_option maxRecDepth 20000 in
theorem gX6_habit_X6_isHabit : GoodIn wsX6_habit (wsV RX6 154 RX6 yX6_isHabit wsX6_isHabit) := goodIn_app (goodIn_of _ (by decide +kernel)) ggX6_habit_X6_isHabit
set_option maxRecDepth 20000 in
theorem ggX6_habit_X6_fromOf : GoodIn wsX6_habit wsX6_fromOf := goodIn_r _ [18] (by decide +kernel) (by decide +kernel)
set_option maxRecDepth 20000 in
theorem gX6_habit_X6_fromOf : GoodIn wsX6_habit (va_wsS RX6 148 yX6_fromOf wsX6_fromOf) := goodIn_app (goodIn_of _ (by decide +kernel)) ggX6_habit_X6_fromOf
set_option maxRecDepth 20000 in
theorem ggX6_habit_X6_toOf : GoodIn wsX6_habit wsX6_toOf := goodIn_r _ [21, 16, 17, 5, 18] (by decide +kernel) (by decide +kernel)
set_option maxRecDepth 20000 in
theorem gX6_habit_X6_toOf : GoodIn wsX6_habit (va_wsS RX6 151 yX6_toOf wsX6_toOf) := goodIn_app (goodIn_of _ (by decide +kernel)) ggX6_habit_X6_toOf
theorem dX6_habit_0 : decode cX6_habit 0 = .ok (.aload_n 0, 1) := by decide +kernel
theorem dX6_habit_1 : decode cX6_habit 1 = .ok (.iload_n 1, 1) := by decide +kernel
theorem dX6_habit_2 : decode cX6_habit 2 = .ok (.invokevirtual 106, 3) := by decide +kernel
theorem dX6_habit_5 : decode cX6_habit 5 = .ok (.ifCond .ne 5, 3) := by decide +kernel
theorem dX6_habit_8 : decode cX6_habit 8 = .ok (.iconst (-1), 1) := by decide +kernel
theorem dX6_habit_9 : decode cX6_habit 9 = .ok (.ireturn, 1) := by decide +kernel
theorem dX6_habit_10 : decode cX6_habit 10 = .ok (.aload_n 0, 1) := by decide +kernel
theorem dX6_habit_11 : decode cX6_habit 11 = .ok (.getfield 19, 3) := by decide +kernel
theorem dX6_habit_14 : decode cX6_habit 14 = .ok (.iload_n 1, 1) := by decide +kernel
theorem dX6_habit_15 : decode cX6_habit 15 = .ok (.iaload, 1) := by decide +kernel
theorem dX6_habit_16 : decode cX6_habit 16 = .ok (.bipush (-9), 2) := by decide +kernel
theorem dX6_habit_18 : decode cX6_habit 18 = .ok (.if_icmp .ne 6, 3) := by decide +kernel
theorem dX6_habit_21 : decode cX6_habit 21 = .ok (.bipush (-3), 2) := by decide +kernel
theorem dX6_habit_23 : decode cX6_habit 23 = .ok (.ireturn, 1) := by decide +kernel
theorem dX6_habit_24 : decode cX6_habit 24 = .ok (.iconst 0, 1) := by decide +kernel
theorem dX6_habit_25 : decode cX6_habit 25 = .ok (.istore_n 2, 1) := by decide +kernel
theorem dX6_habit_26 : decode cX6_habit 26 = .ok (.iload_n 2, 1) := by decide +kernel
theorem dX6_habit_27 : decode cX6_habit 27 = .ok (.sipush 650, 3) := by decide +kernel
theorem dX6_habit_30 : decode cX6_habit 30 = .ok (.if_icmp .ge 85, 3) := by decide +kernel
theorem dX6_habit_33 : decode cX6_habit 33 = .ok (.aload_n 0, 1) := by decide +kernel
theorem dX6_habit_34 : decode cX6_habit 34 = .ok (.iload_n 1, 1) := by decide +kernel
theorem dX6_habit_35 : decode cX6_habit 35 = .ok (.iload_n 2, 1) := by decide +kernel
theorem dX6_habit_36 : decode cX6_habit 36 = .ok (.invokevirtual 154, 3) := by decide +kernel
theorem dX6_habit_39 : decode cX6_habit 39 = .ok (.ifCond .eq 70, 3) := by decide +kernel
theorem dX6_habit_42 : decode cX6_habit 42 = .ok (.iload_n 2, 1) := by decide +kernel
theorem dX6_habit_43 : decode cX6_habit 43 = .ok (.bipush 10, 2) := by decide +kernel
theorem dX6_habit_45 : decode cX6_habit 45 = .ok (.idiv, 1) := by decide +kernel
theorem dX6_habit_46 : decode cX6_habit 46 = .ok (.bipush 13, 2) := by decide +kernel
theorem dX6_habit_48 : decode cX6_habit 48 = .ok (.irem, 1) := by decide +kernel
theorem dX6_habit_49 : decode cX6_habit 49 = .ok (.istore_n 3, 1) := by decide +kernel
theorem dX6_habit_50 : decode cX6_habit 50 = .ok (.iload_n 3, 1) := by decide +kernel
theorem dX6_habit_51 : decode cX6_habit 51 = .ok (.ifCond .ne 7, 3) := by decide +kernel
theorem dX6_habit_54 : decode cX6_habit 54 = .ok (.iconst 0, 1) := by decide +kernel
theorem dX6_habit_55 : decode cX6_habit 55 = .ok (.goto 9, 3) := by decide +kernel
theorem dX6_habit_58 : decode cX6_habit 58 = .ok (.iload_n 3, 1) := by decide +kernel
theorem dX6_habit_59 : decode cX6_habit 59 = .ok (.invokestatic 148, 3) := by decide +kernel
theorem dX6_habit_62 : decode cX6_habit 62 = .ok (.iconst 1, 1) := by decide +kernel
theorem dX6_habit_63 : decode cX6_habit 63 = .ok (.iadd, 1) := by decide +kernel
theorem dX6_habit_64 : decode cX6_habit 64 = .ok (.istore 4, 2) := by decide +kernel
theorem dX6_habit_66 : decode cX6_habit 66 = .ok (.iload_n 3, 1) := by decide +kernel
theorem dX6_habit_67 : decode cX6_habit 67 = .ok (.ifCond .ne 7, 3) := by decide +kernel
theorem dX6_habit_70 : decode cX6_habit 70 = .ok (.iconst 0, 1) := by decide +kernel
theorem dX6_habit_71 : decode cX6_habit 71 = .ok (.goto 9, 3) := by decide +kernel
theorem dX6_habit_74 : decode cX6_habit 74 = .ok (.iload_n 3, 1) := by decide +kernel
theorem dX6_habit_75 : decode cX6_habit 75 = .ok (.invokestatic 151, 3) := by decide +kernel
theorem dX6_habit_78 : decode cX6_habit 78 = .ok (.iconst 1, 1) := by decide +kernel
theorem dX6_habit_79 : decode cX6_habit 79 = .ok (.iadd, 1) := by decide +kernel
theorem dX6_habit_80 : decode cX6_habit 80 = .ok (.istore 5, 2) := by decide +kernel
theorem dX6_habit_82 : decode cX6_habit 82 = .ok (.sipush 1000, 3) := by decide +kernel
theorem dX6_habit_85 : decode cX6_habit 85 = .ok (.iload_n 2, 1) := by decide +kernel
theorem dX6_habit_86 : decode cX6_habit 86 = .ok (.sipush 130, 3) := by decide +kernel
theorem dX6_habit_89 : decode cX6_habit 89 = .ok (.idiv, 1) := by decide +kernel
theorem dX6_habit_90 : decode cX6_habit 90 = .ok (.imul, 1) := by decide +kernel
theorem dX6_habit_91 : decode cX6_habit 91 = .ok (.bipush 100, 2) := by decide +kernel
theorem dX6_habit_93 : decode cX6_habit 93 = .ok (.iload 4, 2) := by decide +kernel
theorem dX6_habit_95 : decode cX6_habit 95 = .ok (.imul, 1) := by decide +kernel
theorem dX6_habit_96 : decode cX6_habit 96 = .ok (.iadd, 1) := by decide +kernel
theorem dX6_habit_97 : decode cX6_habit 97 = .ok (.bipush 10, 2) := by decide +kernel
theorem dX6_habit_99 : decode cX6_habit 99 = .ok (.iload 5, 2) := by decide +kernel
theorem dX6_habit_101 : decode cX6_habit 101 = .ok (.imul, 1) := by decide +kernel
theorem dX6_habit_102 : decode cX6_habit 102 = .ok (.iadd, 1) := by decide +kernel
theorem dX6_habit_103 : decode cX6_habit 103 = .ok (.iload_n 2, 1) := by decide +kernel
theorem dX6_habit_104 : decode cX6_habit 104 = .ok (.bipush 10, 2) := by decide +kernel
theorem dX6_habit_106 : decode cX6_habit 106 = .ok (.irem, 1) := by decide +kernel
theorem dX6_habit_107 : decode cX6_habit 107 = .ok (.iadd, 1) := by decide +kernel
theorem dX6_habit_108 : decode cX6_habit 108 = .ok (.ireturn, 1) := by decide +kernel
theorem dX6_habit_109 : decode cX6_habit 109 = .ok (.iinc 2 1, 3) := by decide +kernel
theorem dX6_habit_112 : decode cX6_habit 112 = .ok (.goto (-86), 3) := by decide +kernel
theorem dX6_habit_115 : decode cX6_habit 115 = .ok (.bipush (-9), 2) := by decide +kernel
theorem dX6_habit_117 : decode cX6_habit 117 = .ok (.ireturn, 1) := by decide +kernel
theorem dX6_copies_0 : decode cX6_copies 0 = .ok (.aload_n 0, 1) := by decide +kernel
theorem dX6_copies_1 : decode cX6_copies 1 = .ok (.getfield 16, 3) := by decide +kernel
theorem dX6_copies_4 : decode cX6_copies 4 = .ok (.bipush 9, 2) := by decide +kernel
theorem dX6_copies_6 : decode cX6_copies 6 = .ok (.iload_n 1, 1) := by decide +kernel
theorem dX6_copies_7 : decode cX6_copies 7 = .ok (.iadd, 1) := by decide +kernel
theorem dX6_copies_8 : decode cX6_copies 8 = .ok (.iaload, 1) := by decide +kernel
theorem dX6_copies_9 : decode cX6_copies 9 = .ok (.istore_n 3, 1) := by decide +kernel
theorem dX6_copies_10 : decode cX6_copies 10 = .ok (.iload_n 3, 1) := by decide +kernel
theorem dX6_copies_11 : decode cX6_copies 11 = .ok (.bipush (-9), 2) := by decide +kernel
theorem dX6_copies_13 : decode cX6_copies 13 = .ok (.if_icmp .eq 21, 3) := by decide +kernel
theorem dX6_copies_16 : decode cX6_copies 16 = .ok (.iload_n 3, 1) := by decide +kernel
theorem dX6_copies_17 : decode cX6_copies 17 = .ok (.iload_n 2, 1) := by decide +kernel
theorem dX6_copies_18 : decode cX6_copies 18 = .ok (.if_icmp .eq 16, 3) := by decide +kernel
theorem dX6_copies_21 : decode cX6_copies 21 = .ok (.aload_n 0, 1) := by decide +kernel
theorem dX6_copies_22 : decode cX6_copies 22 = .ok (.getfield 16, 3) := by decide +kernel
theorem dX6_copies_25 : decode cX6_copies 25 = .ok (.bipush 9, 2) := by decide +kernel
theorem dX6_copies_27 : decode cX6_copies 27 = .ok (.iload_n 3, 1) := by decide +kernel
theorem dX6_copies_28 : decode cX6_copies 28 = .ok (.iadd, 1) := by decide +kernel
theorem dX6_copies_29 : decode cX6_copies 29 = .ok (.iaload, 1) := by decide +kernel
theorem dX6_copies_30 : decode cX6_copies 30 = .ok (.istore_n 3, 1) := by decide +kernel
theorem dX6_copies_31 : decode cX6_copies 31 = .ok (.goto (-21), 3) := by decide +kernel
theorem dX6_copies_34 : decode cX6_copies 34 = .ok (.iload_n 3, 1) := by decide +kernel
theorem dX6_copies_35 : decode cX6_copies 35 = .ok (.iload_n 2, 1) := by decide +kernel
theorem dX6_copies_36 : decode cX6_copies 36 = .ok (.if_icmp .ne 7, 3) := by decide +kernel
theorem dX6_copies_39 : decode cX6_copies 39 = .ok (.iconst 1, 1) := by decide +kernel
theorem dX6_copies_40 : decode cX6_copies 40 = .ok (.goto 4, 3) := by decide +kernel
theorem dX6_copies_43 : decode cX6_copies 43 = .ok (.iconst 0, 1) := by decide +kernel
theorem dX6_copies_44 : decode cX6_copies 44 = .ok (.ireturn, 1) := by decide +kernel
set_option maxRecDepth 20000 in
theorem ggX6_copied_X6_isClerk : GoodIn wsX6_copied wsX6_isClerk := goodIn_r _ [11, 3, 12, 13, 10, 14, 38, 39, 40, 41, 42, 43, 44, 45, 46, 47, 48, 49, 50, 51, 52, 53, 54, 55, 56] (by decide +kernel) (by decide +kernel)
set_option maxRecDepth 20000 in
theorem gX6_copied_X6_isClerk : GoodIn wsX6_copied (wsV RX6 106 RX6 yX6_isClerk wsX6_isClerk) := goodIn_app (goodIn_of _ (by decide +kernel)) ggX6_copied_X6_isClerk
set_option maxRecDepth 20000 in
theorem ggX6_copied_X6_layPages : GoodIn wsX6_copied wsX6_layPages := goodIn_r _ [18, 3, 2, 4, 5, 6, 19, 20, 10, 21, 22, 23, 24, 25, 26, 27, 28, 29, 30, 31, 32, 33, 38, 39, 40, 41, 42, 43, 44, 45, 46, 47, 48, 49, 50, 51, 52, 53, 54, 55, 56] (by decide +kernel) (by decide +kernel)
set_option maxRecDepth 20000 in
theorem gX6_copied_X6_layPages : GoodIn wsX6_copied (wsV RX6 109 RX6 yX6_layPages wsX6_layPages) := goodIn_app (goodIn_of _ (by decide +kernel)) ggX6_copied_X6_layPages
set_option maxRecDepth 20000 in
theorem ggX6_copied_X6_copies : GoodIn wsX6_copied wsX6_copies := goodIn_r _ [37, 2, 38, 39, 40, 41, 42, 43, 44, 45, 46, 47, 48, 49, 50, 51, 52, 53, 54, 55, 56] (by decide +kernel) (by decide +kernel)
set_option maxRecDepth 20000 in
theorem gX6_copied_X6_copies : GoodIn wsX6_copied (wsV RX6 158 RX6 yX6_copies wsX6_copies) := goodIn_app (goodIn_of _ (by decide +kernel)) ggX6_copied_X6_copies
set_option maxRecDepth 20000 in
theorem ggX6_copied_X6_written : GoodIn wsX6_copied wsX6_written := goodIn_r _ [21, 22, 23, 10, 24, 25, 26, 27, 28, 29, 30, 31, 32, 33] (by decide +kernel) (by decide +kernel)
set_option maxRecDepth 20000 in
theorem gX6_copied_X6_written : GoodIn wsX6_copied (va_wsS RX6 102 yX6_written wsX6_written) := goodIn_app (goodIn_of _ (by decide +kernel)) ggX6_copied_X6_written
theorem dX6_copied_0 : decode cX6_copied 0 = .ok (.aload_n 0, 1) := by decide +kernel
theorem dX6_copied_1 : decode cX6_copied 1 = .ok (.iload_n 1, 1) := by decide +kernel
theorem dX6_copied_2 : decode cX6_copied 2 = .ok (.invokevirtual 106, 3) := by decide +kernel
theorem dX6_copied_5 : decode cX6_copied 5 = .ok (.ifCond .ne 5, 3) := by decide +kernel
theorem dX6_copied_8 : decode cX6_copied 8 = .ok (.iconst (-1), 1) := by decide +kernel
theorem dX6_copied_9 : decode cX6_copied 9 = .ok (.ireturn, 1) := by decide +kernel
theorem dX6_copied_10 : decode cX6_copied 10 = .ok (.aload_n 0, 1) := by decide +kernel
theorem dX6_copied_11 : decode cX6_copied 11 = .ok (.getfield 19, 3) := by decide +kernel
theorem dX6_copied_14 : decode cX6_copied 14 = .ok (.iload_n 1, 1) := by decide +kernel
theorem dX6_copied_15 : decode cX6_copied 15 = .ok (.iaload, 1) := by decide +kernel
theorem dX6_copied_16 : decode cX6_copied 16 = .ok (.bipush (-9), 2) := by decide +kernel
theorem dX6_copied_18 : decode cX6_copied 18 = .ok (.if_icmp .ne 6, 3) := by decide +kernel
theorem dX6_copied_21 : decode cX6_copied 21 = .ok (.bipush (-3), 2) := by decide +kernel
theorem dX6_copied_23 : decode cX6_copied 23 = .ok (.ireturn, 1) := by decide +kernel
theorem dX6_copied_24 : decode cX6_copied 24 = .ok (.aload_n 0, 1) := by decide +kernel
theorem dX6_copied_25 : decode cX6_copied 25 = .ok (.aload_n 0, 1) := by decide +kernel
theorem dX6_copied_26 : decode cX6_copied 26 = .ok (.getfield 16, 3) := by decide +kernel
theorem dX6_copied_29 : decode cX6_copied 29 = .ok (.iconst 0, 1) := by decide +kernel
theorem dX6_copied_30 : decode cX6_copied 30 = .ok (.iaload, 1) := by decide +kernel
theorem dX6_copied_31 : decode cX6_copied 31 = .ok (.bipush (-9), 2) := by decide +kernel
theorem dX6_copied_33 : decode cX6_copied 33 = .ok (.invokevirtual 109, 3) := by decide +kernel
theorem dX6_copied_36 : decode cX6_copied 36 = .ok (.iconst 0, 1) := by decide +kernel
theorem dX6_copied_37 : decode cX6_copied 37 = .ok (.istore_n 2, 1) := by decide +kernel
theorem dX6_copied_38 : decode cX6_copied 38 = .ok (.iconst 0, 1) := by decide +kernel
theorem dX6_copied_39 : decode cX6_copied 39 = .ok (.istore_n 3, 1) := by decide +kernel
theorem dX6_copied_40 : decode cX6_copied 40 = .ok (.iload_n 3, 1) := by decide +kernel
theorem dX6_copied_41 : decode cX6_copied 41 = .ok (.iconst 5, 1) := by decide +kernel
theorem dX6_copied_42 : decode cX6_copied 42 = .ok (.if_icmp .ge 143, 3) := by decide +kernel
theorem dX6_copied_45 : decode cX6_copied 45 = .ok (.iload_n 3, 1) := by decide +kernel
theorem dX6_copied_46 : decode cX6_copied 46 = .ok (.iconst 4, 1) := by decide +kernel
theorem dX6_copied_47 : decode cX6_copied 47 = .ok (.if_icmp .eq 25, 3) := by decide +kernel
theorem dX6_copied_50 : decode cX6_copied 50 = .ok (.iload_n 3, 1) := by decide +kernel
theorem dX6_copied_51 : decode cX6_copied 51 = .ok (.aload_n 0, 1) := by decide +kernel
theorem dX6_copied_52 : decode cX6_copied 52 = .ok (.getfield 79, 3) := by decide +kernel
theorem dX6_copied_55 : decode cX6_copied 55 = .ok (.if_icmp .ge 21, 3) := by decide +kernel
theorem dX6_copied_58 : decode cX6_copied 58 = .ok (.iload_n 3, 1) := by decide +kernel
theorem dX6_copied_59 : decode cX6_copied 59 = .ok (.iload_n 1, 1) := by decide +kernel
theorem dX6_copied_60 : decode cX6_copied 60 = .ok (.if_icmp .eq 16, 3) := by decide +kernel
theorem dX6_copied_63 : decode cX6_copied 63 = .ok (.aload_n 0, 1) := by decide +kernel
theorem dX6_copied_64 : decode cX6_copied 64 = .ok (.iload_n 3, 1) := by decide +kernel
theorem dX6_copied_65 : decode cX6_copied 65 = .ok (.iload_n 1, 1) := by decide +kernel
theorem dX6_copied_66 : decode cX6_copied 66 = .ok (.invokevirtual 158, 3) := by decide +kernel
theorem dX6_copied_69 : decode cX6_copied 69 = .ok (.ifCond .ne 7, 3) := by decide +kernel
theorem dX6_copied_72 : decode cX6_copied 72 = .ok (.iconst 1, 1) := by decide +kernel
theorem dX6_copied_73 : decode cX6_copied 73 = .ok (.goto 4, 3) := by decide +kernel
theorem dX6_copied_76 : decode cX6_copied 76 = .ok (.iconst 0, 1) := by decide +kernel
theorem dX6_copied_77 : decode cX6_copied 77 = .ok (.istore 4, 2) := by decide +kernel
theorem dX6_copied_79 : decode cX6_copied 79 = .ok (.iload_n 3, 1) := by decide +kernel
theorem dX6_copied_80 : decode cX6_copied 80 = .ok (.iconst 4, 1) := by decide +kernel
theorem dX6_copied_81 : decode cX6_copied 81 = .ok (.if_icmp .ne 12, 3) := by decide +kernel
theorem dX6_copied_84 : decode cX6_copied 84 = .ok (.aload_n 0, 1) := by decide +kernel
theorem dX6_copied_85 : decode cX6_copied 85 = .ok (.getfield 16, 3) := by decide +kernel
theorem dX6_copied_88 : decode cX6_copied 88 = .ok (.iconst 0, 1) := by decide +kernel
theorem dX6_copied_89 : decode cX6_copied 89 = .ok (.iaload, 1) := by decide +kernel
theorem dX6_copied_90 : decode cX6_copied 90 = .ok (.goto 18, 3) := by decide +kernel
theorem dX6_copied_93 : decode cX6_copied 93 = .ok (.iload 4, 2) := by decide +kernel
theorem dX6_copied_95 : decode cX6_copied 95 = .ok (.ifCond .eq 12, 3) := by decide +kernel
theorem dX6_copied_98 : decode cX6_copied 98 = .ok (.aload_n 0, 1) := by decide +kernel
theorem dX6_copied_99 : decode cX6_copied 99 = .ok (.getfield 25, 3) := by decide +kernel
theorem dX6_copied_102 : decode cX6_copied 102 = .ok (.iload_n 3, 1) := by decide +kernel
theorem dX6_copied_103 : decode cX6_copied 103 = .ok (.iaload, 1) := by decide +kernel
theorem dX6_copied_104 : decode cX6_copied 104 = .ok (.goto 4, 3) := by decide +kernel
theorem dX6_copied_107 : decode cX6_copied 107 = .ok (.iconst 0, 1) := by decide +kernel
theorem dX6_copied_108 : decode cX6_copied 108 = .ok (.istore 5, 2) := by decide +kernel
theorem dX6_copied_110 : decode cX6_copied 110 = .ok (.iload 4, 2) := by decide +kernel
theorem dX6_copied_112 : decode cX6_copied 112 = .ok (.ifCond .eq 49, 3) := by decide +kernel
theorem dX6_copied_115 : decode cX6_copied 115 = .ok (.iload 5, 2) := by decide +kernel
theorem dX6_copied_117 : decode cX6_copied 117 = .ok (.aload_n 0, 1) := by decide +kernel
theorem dX6_copied_118 : decode cX6_copied 118 = .ok (.getfield 7, 3) := by decide +kernel
theorem dX6_copied_121 : decode cX6_copied 121 = .ok (.iload_n 1, 1) := by decide +kernel
theorem dX6_copied_122 : decode cX6_copied 122 = .ok (.iaload, 1) := by decide +kernel
theorem dX6_copied_123 : decode cX6_copied 123 = .ok (.aload_n 0, 1) := by decide +kernel
theorem dX6_copied_124 : decode cX6_copied 124 = .ok (.getfield 16, 3) := by decide +kernel
theorem dX6_copied_127 : decode cX6_copied 127 = .ok (.iconst 1, 1) := by decide +kernel
theorem dX6_copied_128 : decode cX6_copied 128 = .ok (.iload_n 1, 1) := by decide +kernel
theorem dX6_copied_129 : decode cX6_copied 129 = .ok (.iadd, 1) := by decide +kernel
theorem dX6_copied_130 : decode cX6_copied 130 = .ok (.iaload, 1) := by decide +kernel
theorem dX6_copied_131 : decode cX6_copied 131 = .ok (.aload_n 0, 1) := by decide +kernel
theorem dX6_copied_132 : decode cX6_copied 132 = .ok (.getfield 16, 3) := by decide +kernel
theorem dX6_copied_135 : decode cX6_copied 135 = .ok (.iconst 5, 1) := by decide +kernel
theorem dX6_copied_136 : decode cX6_copied 136 = .ok (.iload_n 1, 1) := by decide +kernel
theorem dX6_copied_137 : decode cX6_copied 137 = .ok (.iadd, 1) := by decide +kernel
theorem dX6_copied_138 : decode cX6_copied 138 = .ok (.iaload, 1) := by decide +kernel
theorem dX6_copied_139 : decode cX6_copied 139 = .ok (.aload_n 0, 1) := by decide +kernel
theorem dX6_copied_140 : decode cX6_copied 140 = .ok (.getfield 13, 3) := by decide +kernel
theorem dX6_copied_143 : decode cX6_copied 143 = .ok (.iload_n 1, 1) := by decide +kernel
theorem dX6_copied_144 : decode cX6_copied 144 = .ok (.iaload, 1) := by decide +kernel
theorem dX6_copied_145 : decode cX6_copied 145 = .ok (.invokestatic 102, 3) := by decide +kernel
theorem dX6_copied_148 : decode cX6_copied 148 = .ok (.aload_n 0, 1) := by decide +kernel
theorem dX6_copied_149 : decode cX6_copied 149 = .ok (.getfield 19, 3) := by decide +kernel
theorem dX6_copied_152 : decode cX6_copied 152 = .ok (.iload_n 1, 1) := by decide +kernel
theorem dX6_copied_153 : decode cX6_copied 153 = .ok (.iaload, 1) := by decide +kernel
theorem dX6_copied_154 : decode cX6_copied 154 = .ok (.if_icmp .ne 7, 3) := by decide +kernel
theorem dX6_copied_157 : decode cX6_copied 157 = .ok (.iconst 1, 1) := by decide +kernel
theorem dX6_copied_158 : decode cX6_copied 158 = .ok (.goto 4, 3) := by decide +kernel
theorem dX6_copied_161 : decode cX6_copied 161 = .ok (.iconst 0, 1) := by decide +kernel
theorem dX6_copied_162 : decode cX6_copied 162 = .ok (.istore 6, 2) := by decide +kernel
theorem dX6_copied_164 : decode cX6_copied 164 = .ok (.iload_n 2, 1) := by decide +kernel
theorem dX6_copied_165 : decode cX6_copied 165 = .ok (.iload 6, 2) := by decide +kernel
theorem dX6_copied_167 : decode cX6_copied 167 = .ok (.ifCond .eq 9, 3) := by decide +kernel
theorem dX6_copied_170 : decode cX6_copied 170 = .ok (.iconst 1, 1) := by decide +kernel
theorem dX6_copied_171 : decode cX6_copied 171 = .ok (.iload_n 3, 1) := by decide +kernel
theorem dX6_copied_172 : decode cX6_copied 172 = .ok (.ishl, 1) := by decide +kernel
theorem dX6_copied_173 : decode cX6_copied 173 = .ok (.goto 4, 3) := by decide +kernel
theorem dX6_copied_176 : decode cX6_copied 176 = .ok (.iconst 0, 1) := by decide +kernel
theorem dX6_copied_177 : decode cX6_copied 177 = .ok (.ior, 1) := by decide +kernel
theorem dX6_copied_178 : decode cX6_copied 178 = .ok (.istore_n 2, 1) := by decide +kernel
theorem dX6_copied_179 : decode cX6_copied 179 = .ok (.iinc 3 1, 3) := by decide +kernel
theorem dX6_copied_182 : decode cX6_copied 182 = .ok (.goto (-142), 3) := by decide +kernel
theorem dX6_copied_185 : decode cX6_copied 185 = .ok (.iload_n 2, 1) := by decide +kernel
theorem dX6_copied_186 : decode cX6_copied 186 = .ok (.ireturn, 1) := by decide +kernel
set_option maxRecDepth 20000 in
theorem ggX6_withLeaf_X6_wordAt : GoodIn wsX6_withLeaf wsX6_wordAt := goodIn_r _ [4, 5, 6, 3, 7, 8, 9, 10] (by decide +kernel) (by decide +kernel)
set_option maxRecDepth 20000 in
theorem gX6_withLeaf_X6_wordAt : GoodIn wsX6_withLeaf (va_wsS RX6 96 yX6_wordAt wsX6_wordAt) := goodIn_app (goodIn_of _ (by decide +kernel)) ggX6_withLeaf_X6_wordAt
set_option maxRecDepth 20000 in
theorem ggX6_withLeaf_X6_withWord : GoodIn wsX6_withLeaf wsX6_withWord := goodIn_r _ [13] (by decide +kernel) (by decide +kernel)
set_option maxRecDepth 20000 in
theorem gX6_withLeaf_X6_withWord : GoodIn wsX6_withLeaf (va_wsS RX6 99 yX6_withWord wsX6_withWord) := goodIn_app (goodIn_of _ (by decide +kernel)) ggX6_withLeaf_X6_withWord
set_option maxRecDepth 20000 in
theorem ggX6_withLeaf_X6_wordsOf : GoodIn wsX6_withLeaf wsX6_wordsOf := goodIn_r _ [7] (by decide +kernel) (by decide +kernel)
set_option maxRecDepth 20000 in
theorem gX6_withLeaf_X6_wordsOf : GoodIn wsX6_withLeaf (va_wsS RX6 89 yX6_wordsOf wsX6_wordsOf) := goodIn_app (goodIn_of _ (by decide +kernel)) ggX6_withLeaf_X6_wordsOf
theorem dX6_withLeaf_0 : decode cX6_withLeaf 0 = .ok (.iload_n 0, 1) := by decide +kernel
theorem dX6_withLeaf_1 : decode cX6_withLeaf 1 = .ok (.iload_n 1, 1) := by decide +kernel
theorem dX6_withLeaf_2 : decode cX6_withLeaf 2 = .ok (.iconst 2, 1) := by decide +kernel
theorem dX6_withLeaf_3 : decode cX6_withLeaf 3 = .ok (.iload_n 2, 1) := by decide +kernel
theorem dX6_withLeaf_4 : decode cX6_withLeaf 4 = .ok (.imul, 1) := by decide +kernel
theorem dX6_withLeaf_5 : decode cX6_withLeaf 5 = .ok (.invokestatic 96, 3) := by decide +kernel
theorem dX6_withLeaf_8 : decode cX6_withLeaf 8 = .ok (.invokestatic 99, 3) := by decide +kernel
theorem dX6_withLeaf_11 : decode cX6_withLeaf 11 = .ok (.istore_n 3, 1) := by decide +kernel
theorem dX6_withLeaf_12 : decode cX6_withLeaf 12 = .ok (.iconst 2, 1) := by decide +kernel
theorem dX6_withLeaf_13 : decode cX6_withLeaf 13 = .ok (.iload_n 2, 1) := by decide +kernel
theorem dX6_withLeaf_14 : decode cX6_withLeaf 14 = .ok (.imul, 1) := by decide +kernel
theorem dX6_withLeaf_15 : decode cX6_withLeaf 15 = .ok (.iconst 1, 1) := by decide +kernel
theorem dX6_withLeaf_16 : decode cX6_withLeaf 16 = .ok (.iadd, 1) := by decide +kernel
theorem dX6_withLeaf_17 : decode cX6_withLeaf 17 = .ok (.iload_n 1, 1) := by decide +kernel
theorem dX6_withLeaf_18 : decode cX6_withLeaf 18 = .ok (.invokestatic 89, 3) := by decide +kernel
theorem dX6_withLeaf_21 : decode cX6_withLeaf 21 = .ok (.if_icmp .ge 19, 3) := by decide +kernel
theorem dX6_withLeaf_24 : decode cX6_withLeaf 24 = .ok (.iload_n 3, 1) := by decide +kernel
theorem dX6_withLeaf_25 : decode cX6_withLeaf 25 = .ok (.iload_n 1, 1) := by decide +kernel
theorem dX6_withLeaf_26 : decode cX6_withLeaf 26 = .ok (.iconst 2, 1) := by decide +kernel
theorem dX6_withLeaf_27 : decode cX6_withLeaf 27 = .ok (.iload_n 2, 1) := by decide +kernel
theorem dX6_withLeaf_28 : decode cX6_withLeaf 28 = .ok (.imul, 1) := by decide +kernel
theorem dX6_withLeaf_29 : decode cX6_withLeaf 29 = .ok (.iconst 1, 1) := by decide +kernel
theorem dX6_withLeaf_30 : decode cX6_withLeaf 30 = .ok (.iadd, 1) := by decide +kernel
theorem dX6_withLeaf_31 : decode cX6_withLeaf 31 = .ok (.invokestatic 96, 3) := by decide +kernel
theorem dX6_withLeaf_34 : decode cX6_withLeaf 34 = .ok (.invokestatic 99, 3) := by decide +kernel
theorem dX6_withLeaf_37 : decode cX6_withLeaf 37 = .ok (.goto 4, 3) := by decide +kernel
theorem dX6_withLeaf_40 : decode cX6_withLeaf 40 = .ok (.iload_n 3, 1) := by decide +kernel
theorem dX6_withLeaf_41 : decode cX6_withLeaf 41 = .ok (.ireturn, 1) := by decide +kernel
set_option maxRecDepth 20000 in
theorem ggX6_leaves_X6_isClerk : GoodIn wsX6_leaves wsX6_isClerk := goodIn_r _ [8, 9, 10, 11, 7, 12, 37, 38, 39, 40, 41, 42, 43, 44, 45, 46, 47, 48, 49, 50, 51, 52, 53, 54, 55] (by decide +kernel) (by decide +kernel)
set_option maxRecDepth 20000 in
theorem gX6_leaves_X6_isClerk : GoodIn wsX6_leaves (wsV RX6 106 RX6 yX6_isClerk wsX6_isClerk) := goodIn_app (goodIn_of _ (by decide +kernel)) ggX6_leaves_X6_isClerk
set_option maxRecDepth 20000 in
theorem ggX6_leaves_X6_layPages : GoodIn wsX6_leaves wsX6_layPages := goodIn_r _ [16, 9, 2, 3, 17, 18, 19, 20, 7, 21, 22, 23, 24, 25, 26, 27, 28, 29, 30, 31, 32, 33, 37, 38, 39, 40, 41, 42, 43, 44, 45, 46, 47, 48, 49, 50, 51, 52, 53, 54, 55] (by decide +kernel) (by decide +kernel)
set_option maxRecDepth 20000 in
theorem gX6_leaves_X6_layPages : GoodIn wsX6_leaves (wsV RX6 109 RX6 yX6_layPages wsX6_layPages) := goodIn_app (goodIn_of _ (by decide +kernel)) ggX6_leaves_X6_layPages
set_option maxRecDepth 20000 in
theorem ggX6_leaves_X6_wordsOf : GoodIn wsX6_leaves wsX6_wordsOf := goodIn_r _ [24] (by decide +kernel) (by decide +kernel)
set_option maxRecDepth 20000 in
theorem gX6_leaves_X6_wordsOf : GoodIn wsX6_leaves (va_wsS RX6 89 yX6_wordsOf wsX6_wordsOf) := goodIn_app (goodIn_of _ (by decide +kernel)) ggX6_leaves_X6_wordsOf
set_option maxRecDepth 20000 in
theorem ggX6_leaves_X6_withLeaf : GoodIn wsX6_leaves wsX6_withLeaf := goodIn_r _ [36, 25, 26, 7, 27, 22, 23, 24, 28, 29, 30, 31, 32, 33] (by decide +kernel) (by decide +kernel)
set_option maxRecDepth 20000 in
theorem gX6_leaves_X6_withLeaf : GoodIn wsX6_leaves (va_wsS RX6 161 yX6_withLeaf wsX6_withLeaf) := goodIn_app (goodIn_of _ (by decide +kernel)) ggX6_leaves_X6_withLeaf
theorem dX6_leaves_0 : decode cX6_leaves 0 = .ok (.aload_n 0, 1) := by decide +kernel
theorem dX6_leaves_1 : decode cX6_leaves 1 = .ok (.iload_n 1, 1) := by decide +kernel
theorem dX6_leaves_2 : decode cX6_leaves 2 = .ok (.invokevirtual 106, 3) := by decide +kernel
theorem dX6_leaves_5 : decode cX6_leaves 5 = .ok (.ifCond .ne 5, 3) := by decide +kernel
theorem dX6_leaves_8 : decode cX6_leaves 8 = .ok (.iconst (-1), 1) := by decide +kernel
theorem dX6_leaves_9 : decode cX6_leaves 9 = .ok (.ireturn, 1) := by decide +kernel
theorem dX6_leaves_10 : decode cX6_leaves 10 = .ok (.aload_n 0, 1) := by decide +kernel
theorem dX6_leaves_11 : decode cX6_leaves 11 = .ok (.getfield 19, 3) := by decide +kernel
theorem dX6_leaves_14 : decode cX6_leaves 14 = .ok (.iload_n 1, 1) := by decide +kernel
theorem dX6_leaves_15 : decode cX6_leaves 15 = .ok (.iaload, 1) := by decide +kernel
theorem dX6_leaves_16 : decode cX6_leaves 16 = .ok (.bipush (-9), 2) := by decide +kernel
theorem dX6_leaves_18 : decode cX6_leaves 18 = .ok (.if_icmp .ne 6, 3) := by decide +kernel
theorem dX6_leaves_21 : decode cX6_leaves 21 = .ok (.bipush (-9), 2) := by decide +kernel
theorem dX6_leaves_23 : decode cX6_leaves 23 = .ok (.ireturn, 1) := by decide +kernel
theorem dX6_leaves_24 : decode cX6_leaves 24 = .ok (.aload_n 0, 1) := by decide +kernel
theorem dX6_leaves_25 : decode cX6_leaves 25 = .ok (.aload_n 0, 1) := by decide +kernel
theorem dX6_leaves_26 : decode cX6_leaves 26 = .ok (.getfield 16, 3) := by decide +kernel
theorem dX6_leaves_29 : decode cX6_leaves 29 = .ok (.iconst 0, 1) := by decide +kernel
theorem dX6_leaves_30 : decode cX6_leaves 30 = .ok (.iaload, 1) := by decide +kernel
theorem dX6_leaves_31 : decode cX6_leaves 31 = .ok (.bipush (-9), 2) := by decide +kernel
theorem dX6_leaves_33 : decode cX6_leaves 33 = .ok (.invokevirtual 109, 3) := by decide +kernel
theorem dX6_leaves_36 : decode cX6_leaves 36 = .ok (.aload_n 0, 1) := by decide +kernel
theorem dX6_leaves_37 : decode cX6_leaves 37 = .ok (.getfield 25, 3) := by decide +kernel
theorem dX6_leaves_40 : decode cX6_leaves 40 = .ok (.iload_n 1, 1) := by decide +kernel
theorem dX6_leaves_41 : decode cX6_leaves 41 = .ok (.iaload, 1) := by decide +kernel
theorem dX6_leaves_42 : decode cX6_leaves 42 = .ok (.istore_n 2, 1) := by decide +kernel
theorem dX6_leaves_43 : decode cX6_leaves 43 = .ok (.iload_n 2, 1) := by decide +kernel
theorem dX6_leaves_44 : decode cX6_leaves 44 = .ok (.invokestatic 89, 3) := by decide +kernel
theorem dX6_leaves_47 : decode cX6_leaves 47 = .ok (.iconst 1, 1) := by decide +kernel
theorem dX6_leaves_48 : decode cX6_leaves 48 = .ok (.iadd, 1) := by decide +kernel
theorem dX6_leaves_49 : decode cX6_leaves 49 = .ok (.iconst 2, 1) := by decide +kernel
theorem dX6_leaves_50 : decode cX6_leaves 50 = .ok (.idiv, 1) := by decide +kernel
theorem dX6_leaves_51 : decode cX6_leaves 51 = .ok (.istore_n 3, 1) := by decide +kernel
theorem dX6_leaves_52 : decode cX6_leaves 52 = .ok (.iload_n 3, 1) := by decide +kernel
theorem dX6_leaves_53 : decode cX6_leaves 53 = .ok (.ifCond .ne 18, 3) := by decide +kernel
theorem dX6_leaves_56 : decode cX6_leaves 56 = .ok (.aload_n 0, 1) := by decide +kernel
theorem dX6_leaves_57 : decode cX6_leaves 57 = .ok (.getfield 19, 3) := by decide +kernel
theorem dX6_leaves_60 : decode cX6_leaves 60 = .ok (.iload_n 1, 1) := by decide +kernel
theorem dX6_leaves_61 : decode cX6_leaves 61 = .ok (.iaload, 1) := by decide +kernel
theorem dX6_leaves_62 : decode cX6_leaves 62 = .ok (.ifCond .ne 7, 3) := by decide +kernel
theorem dX6_leaves_65 : decode cX6_leaves 65 = .ok (.iconst 1, 1) := by decide +kernel
theorem dX6_leaves_66 : decode cX6_leaves 66 = .ok (.goto 4, 3) := by decide +kernel
theorem dX6_leaves_69 : decode cX6_leaves 69 = .ok (.iconst 0, 1) := by decide +kernel
theorem dX6_leaves_70 : decode cX6_leaves 70 = .ok (.ireturn, 1) := by decide +kernel
theorem dX6_leaves_71 : decode cX6_leaves 71 = .ok (.iconst 0, 1) := by decide +kernel
theorem dX6_leaves_72 : decode cX6_leaves 72 = .ok (.istore 4, 2) := by decide +kernel
theorem dX6_leaves_74 : decode cX6_leaves 74 = .ok (.iconst 0, 1) := by decide +kernel
theorem dX6_leaves_75 : decode cX6_leaves 75 = .ok (.istore 5, 2) := by decide +kernel
theorem dX6_leaves_77 : decode cX6_leaves 77 = .ok (.iload 5, 2) := by decide +kernel
theorem dX6_leaves_79 : decode cX6_leaves 79 = .ok (.bipush 27, 2) := by decide +kernel
theorem dX6_leaves_81 : decode cX6_leaves 81 = .ok (.if_icmp .ge 152, 3) := by decide +kernel
theorem dX6_leaves_84 : decode cX6_leaves 84 = .ok (.iconst 0, 1) := by decide +kernel
theorem dX6_leaves_85 : decode cX6_leaves 85 = .ok (.istore 6, 2) := by decide +kernel
theorem dX6_leaves_87 : decode cX6_leaves 87 = .ok (.iconst 0, 1) := by decide +kernel
theorem dX6_leaves_88 : decode cX6_leaves 88 = .ok (.istore 7, 2) := by decide +kernel
theorem dX6_leaves_90 : decode cX6_leaves 90 = .ok (.iconst 0, 1) := by decide +kernel
theorem dX6_leaves_91 : decode cX6_leaves 91 = .ok (.istore 8, 2) := by decide +kernel
theorem dX6_leaves_93 : decode cX6_leaves 93 = .ok (.iload 8, 2) := by decide +kernel
theorem dX6_leaves_95 : decode cX6_leaves 95 = .ok (.iload_n 3, 1) := by decide +kernel
theorem dX6_leaves_96 : decode cX6_leaves 96 = .ok (.if_icmp .ge 67, 3) := by decide +kernel
theorem dX6_leaves_99 : decode cX6_leaves 99 = .ok (.iload 5, 2) := by decide +kernel
theorem dX6_leaves_101 : decode cX6_leaves 101 = .ok (.iload 8, 2) := by decide +kernel
theorem dX6_leaves_103 : decode cX6_leaves 103 = .ok (.ifCond .ne 7, 3) := by decide +kernel
theorem dX6_leaves_106 : decode cX6_leaves 106 = .ok (.iconst 1, 1) := by decide +kernel
theorem dX6_leaves_107 : decode cX6_leaves 107 = .ok (.goto 15, 3) := by decide +kernel
theorem dX6_leaves_110 : decode cX6_leaves 110 = .ok (.iload 8, 2) := by decide +kernel
theorem dX6_leaves_112 : decode cX6_leaves 112 = .ok (.iconst 1, 1) := by decide +kernel
theorem dX6_leaves_113 : decode cX6_leaves 113 = .ok (.if_icmp .ne 7, 3) := by decide +kernel
theorem dX6_leaves_116 : decode cX6_leaves 116 = .ok (.iconst 3, 1) := by decide +kernel
theorem dX6_leaves_117 : decode cX6_leaves 117 = .ok (.goto 5, 3) := by decide +kernel
theorem dX6_leaves_120 : decode cX6_leaves 120 = .ok (.bipush 9, 2) := by decide +kernel
theorem dX6_leaves_122 : decode cX6_leaves 122 = .ok (.idiv, 1) := by decide +kernel
theorem dX6_leaves_123 : decode cX6_leaves 123 = .ok (.iconst 3, 1) := by decide +kernel
theorem dX6_leaves_124 : decode cX6_leaves 124 = .ok (.irem, 1) := by decide +kernel
theorem dX6_leaves_125 : decode cX6_leaves 125 = .ok (.istore 9, 2) := by decide +kernel
theorem dX6_leaves_127 : decode cX6_leaves 127 = .ok (.iload 6, 2) := by decide +kernel
theorem dX6_leaves_129 : decode cX6_leaves 129 = .ok (.iconst 1, 1) := by decide +kernel
theorem dX6_leaves_130 : decode cX6_leaves 130 = .ok (.iload 9, 2) := by decide +kernel
theorem dX6_leaves_132 : decode cX6_leaves 132 = .ok (.ishl, 1) := by decide +kernel
theorem dX6_leaves_133 : decode cX6_leaves 133 = .ok (.ior, 1) := by decide +kernel
theorem dX6_leaves_134 : decode cX6_leaves 134 = .ok (.istore 6, 2) := by decide +kernel
theorem dX6_leaves_136 : decode cX6_leaves 136 = .ok (.iload 9, 2) := by decide +kernel
theorem dX6_leaves_138 : decode cX6_leaves 138 = .ok (.iload_n 3, 1) := by decide +kernel
theorem dX6_leaves_139 : decode cX6_leaves 139 = .ok (.if_icmp .ge 14, 3) := by decide +kernel
theorem dX6_leaves_142 : decode cX6_leaves 142 = .ok (.iload 7, 2) := by decide +kernel
theorem dX6_leaves_144 : decode cX6_leaves 144 = .ok (.iload_n 2, 1) := by decide +kernel
theorem dX6_leaves_145 : decode cX6_leaves 145 = .ok (.iload 9, 2) := by decide +kernel
theorem dX6_leaves_147 : decode cX6_leaves 147 = .ok (.invokestatic 161, 3) := by decide +kernel
theorem dX6_leaves_150 : decode cX6_leaves 150 = .ok (.goto 5, 3) := by decide +kernel
theorem dX6_leaves_153 : decode cX6_leaves 153 = .ok (.iload 7, 2) := by decide +kernel
theorem dX6_leaves_155 : decode cX6_leaves 155 = .ok (.istore 7, 2) := by decide +kernel
theorem dX6_leaves_157 : decode cX6_leaves 157 = .ok (.iinc 8 1, 3) := by decide +kernel
theorem dX6_leaves_160 : decode cX6_leaves 160 = .ok (.goto (-67), 3) := by decide +kernel
theorem dX6_leaves_163 : decode cX6_leaves 163 = .ok (.iload_n 3, 1) := by decide +kernel
theorem dX6_leaves_164 : decode cX6_leaves 164 = .ok (.iconst 3, 1) := by decide +kernel
theorem dX6_leaves_165 : decode cX6_leaves 165 = .ok (.if_icmp .eq 19, 3) := by decide +kernel
theorem dX6_leaves_168 : decode cX6_leaves 168 = .ok (.iload 5, 2) := by decide +kernel
theorem dX6_leaves_170 : decode cX6_leaves 170 = .ok (.iload_n 3, 1) := by decide +kernel
theorem dX6_leaves_171 : decode cX6_leaves 171 = .ok (.iconst 2, 1) := by decide +kernel
theorem dX6_leaves_172 : decode cX6_leaves 172 = .ok (.if_icmp .ne 8, 3) := by decide +kernel
theorem dX6_leaves_175 : decode cX6_leaves 175 = .ok (.bipush 9, 2) := by decide +kernel
theorem dX6_leaves_177 : decode cX6_leaves 177 = .ok (.goto 4, 3) := by decide +kernel
theorem dX6_leaves_180 : decode cX6_leaves 180 = .ok (.iconst 3, 1) := by decide +kernel
theorem dX6_leaves_181 : decode cX6_leaves 181 = .ok (.if_icmp .ge 7, 3) := by decide +kernel
theorem dX6_leaves_184 : decode cX6_leaves 184 = .ok (.iconst 1, 1) := by decide +kernel
theorem dX6_leaves_185 : decode cX6_leaves 185 = .ok (.goto 4, 3) := by decide +kernel
theorem dX6_leaves_188 : decode cX6_leaves 188 = .ok (.iconst 0, 1) := by decide +kernel
theorem dX6_leaves_189 : decode cX6_leaves 189 = .ok (.istore 8, 2) := by decide +kernel
theorem dX6_leaves_191 : decode cX6_leaves 191 = .ok (.iload 4, 2) := by decide +kernel
theorem dX6_leaves_193 : decode cX6_leaves 193 = .ok (.iload 8, 2) := by decide +kernel
theorem dX6_leaves_195 : decode cX6_leaves 195 = .ok (.ifCond .eq 28, 3) := by decide +kernel
theorem dX6_leaves_198 : decode cX6_leaves 198 = .ok (.iload 6, 2) := by decide +kernel
theorem dX6_leaves_200 : decode cX6_leaves 200 = .ok (.iconst 1, 1) := by decide +kernel
theorem dX6_leaves_201 : decode cX6_leaves 201 = .ok (.iload_n 3, 1) := by decide +kernel
theorem dX6_leaves_202 : decode cX6_leaves 202 = .ok (.ishl, 1) := by decide +kernel
theorem dX6_leaves_203 : decode cX6_leaves 203 = .ok (.iconst 1, 1) := by decide +kernel
theorem dX6_leaves_204 : decode cX6_leaves 204 = .ok (.isub, 1) := by decide +kernel
theorem dX6_leaves_205 : decode cX6_leaves 205 = .ok (.if_icmp .ne 18, 3) := by decide +kernel
theorem dX6_leaves_208 : decode cX6_leaves 208 = .ok (.iload 7, 2) := by decide +kernel
theorem dX6_leaves_210 : decode cX6_leaves 210 = .ok (.aload_n 0, 1) := by decide +kernel
theorem dX6_leaves_211 : decode cX6_leaves 211 = .ok (.getfield 19, 3) := by decide +kernel
theorem dX6_leaves_214 : decode cX6_leaves 214 = .ok (.iload_n 1, 1) := by decide +kernel
theorem dX6_leaves_215 : decode cX6_leaves 215 = .ok (.iaload, 1) := by decide +kernel
theorem dX6_leaves_216 : decode cX6_leaves 216 = .ok (.if_icmp .ne 7, 3) := by decide +kernel
theorem dX6_leaves_219 : decode cX6_leaves 219 = .ok (.iconst 1, 1) := by decide +kernel
theorem dX6_leaves_220 : decode cX6_leaves 220 = .ok (.goto 4, 3) := by decide +kernel
theorem dX6_leaves_223 : decode cX6_leaves 223 = .ok (.iconst 0, 1) := by decide +kernel
theorem dX6_leaves_224 : decode cX6_leaves 224 = .ok (.iadd, 1) := by decide +kernel
theorem dX6_leaves_225 : decode cX6_leaves 225 = .ok (.istore 4, 2) := by decide +kernel
theorem dX6_leaves_227 : decode cX6_leaves 227 = .ok (.iinc 5 1, 3) := by decide +kernel
theorem dX6_leaves_230 : decode cX6_leaves 230 = .ok (.goto (-153), 3) := by decide +kernel
theorem dX6_leaves_233 : decode cX6_leaves 233 = .ok (.iload 4, 2) := by decide +kernel
theorem dX6_leaves_235 : decode cX6_leaves 235 = .ok (.ireturn, 1) := by decide +kernel
set_option maxRecDepth 20000 in
theorem ggX6_unlike_X6_fourTo : GoodIn wsX6_unlike wsX6_fourTo := goodIn_r _ [8] (by decide +kernel) (by decide +kernel)
set_option maxRecDepth 20000 in
theorem gX6_unlike_X6_fourTo : GoodIn wsX6_unlike (va_wsS RX6 93 yX6_fourTo wsX6_fourTo) := goodIn_app (goodIn_of _ (by decide +kernel)) ggX6_unlike_X6_fourTo
set_option maxRecDepth 20000 in
theorem ggX6_unlike_X6_layPages : GoodIn wsX6_unlike wsX6_layPages := goodIn_r _ [12, 3, 13, 4, 14, 15, 16, 17, 7, 18, 19, 20, 21, 22, 23, 24, 5, 6, 8, 25, 26, 27, 35, 36, 37, 38, 39, 40, 41, 42, 43, 44, 45, 46, 47, 48, 49, 50, 51, 52, 53] (by decide +kernel) (by decide +kernel)
set_option maxRecDepth 20000 in
theorem gX6_unlike_X6_layPages : GoodIn wsX6_unlike (wsV RX6 109 RX6 yX6_layPages wsX6_layPages) := goodIn_app (goodIn_of _ (by decide +kernel)) ggX6_unlike_X6_layPages
set_option maxRecDepth 20000 in
theorem ggX6_unlike_X6_has : GoodIn wsX6_unlike wsX6_has := goodIn_r _ [30] (by decide +kernel) (by decide +kernel)
set_option maxRecDepth 20000 in
theorem gX6_unlike_X6_has : GoodIn wsX6_unlike (va_wsS RX6 164 yX6_has wsX6_has) := goodIn_app (goodIn_of _ (by decide +kernel)) ggX6_unlike_X6_has
set_option maxRecDepth 20000 in
theorem ggX6_unlike_X6_same : GoodIn wsX6_unlike wsX6_same := goodIn_r _ [34, 2, 35, 36, 37, 38, 39, 40, 41, 42, 43, 44, 45, 46, 47, 48, 49, 50, 51, 52, 53] (by decide +kernel) (by decide +kernel)
set_option maxRecDepth 20000 in
theorem gX6_unlike_X6_same : GoodIn wsX6_unlike (wsV RX6 167 RX6 yX6_same wsX6_same) := goodIn_app (goodIn_of _ (by decide +kernel)) ggX6_unlike_X6_same
theorem dX6_unlike_0 : decode cX6_unlike 0 = .ok (.iconst 0, 1) := by decide +kernel
theorem dX6_unlike_1 : decode cX6_unlike 1 = .ok (.istore 4, 2) := by decide +kernel
theorem dX6_unlike_3 : decode cX6_unlike 3 = .ok (.iload 4, 2) := by decide +kernel
theorem dX6_unlike_5 : decode cX6_unlike 5 = .ok (.sipush 8192, 3) := by decide +kernel
theorem dX6_unlike_8 : decode cX6_unlike 8 = .ok (.if_icmp .ge 18, 3) := by decide +kernel
theorem dX6_unlike_11 : decode cX6_unlike 11 = .ok (.aload_n 0, 1) := by decide +kernel
theorem dX6_unlike_12 : decode cX6_unlike 12 = .ok (.getfield 34, 3) := by decide +kernel
theorem dX6_unlike_15 : decode cX6_unlike 15 = .ok (.iload 4, 2) := by decide +kernel
theorem dX6_unlike_17 : decode cX6_unlike 17 = .ok (.bipush (-9), 2) := by decide +kernel
theorem dX6_unlike_19 : decode cX6_unlike 19 = .ok (.iastore, 1) := by decide +kernel
theorem dX6_unlike_20 : decode cX6_unlike 20 = .ok (.iinc 4 1, 3) := by decide +kernel
theorem dX6_unlike_23 : decode cX6_unlike 23 = .ok (.goto (-20), 3) := by decide +kernel
theorem dX6_unlike_26 : decode cX6_unlike 26 = .ok (.iconst 0, 1) := by decide +kernel
theorem dX6_unlike_27 : decode cX6_unlike 27 = .ok (.istore 4, 2) := by decide +kernel
theorem dX6_unlike_29 : decode cX6_unlike 29 = .ok (.iconst 0, 1) := by decide +kernel
theorem dX6_unlike_30 : decode cX6_unlike 30 = .ok (.istore 5, 2) := by decide +kernel
theorem dX6_unlike_32 : decode cX6_unlike 32 = .ok (.iload 5, 2) := by decide +kernel
theorem dX6_unlike_34 : decode cX6_unlike 34 = .ok (.iload_n 1, 1) := by decide +kernel
theorem dX6_unlike_35 : decode cX6_unlike 35 = .ok (.invokestatic 93, 3) := by decide +kernel
theorem dX6_unlike_38 : decode cX6_unlike 38 = .ok (.if_icmp .ge 184, 3) := by decide +kernel
theorem dX6_unlike_41 : decode cX6_unlike 41 = .ok (.aload_n 0, 1) := by decide +kernel
theorem dX6_unlike_42 : decode cX6_unlike 42 = .ok (.iload_n 1, 1) := by decide +kernel
theorem dX6_unlike_43 : decode cX6_unlike 43 = .ok (.sipush 4096, 3) := by decide +kernel
theorem dX6_unlike_46 : decode cX6_unlike 46 = .ok (.imul, 1) := by decide +kernel
theorem dX6_unlike_47 : decode cX6_unlike 47 = .ok (.iload 5, 2) := by decide +kernel
theorem dX6_unlike_49 : decode cX6_unlike 49 = .ok (.iadd, 1) := by decide +kernel
theorem dX6_unlike_50 : decode cX6_unlike 50 = .ok (.iload_n 3, 1) := by decide +kernel
theorem dX6_unlike_51 : decode cX6_unlike 51 = .ok (.invokevirtual 109, 3) := by decide +kernel
theorem dX6_unlike_54 : decode cX6_unlike 54 = .ok (.iconst 0, 1) := by decide +kernel
theorem dX6_unlike_55 : decode cX6_unlike 55 = .ok (.istore 6, 2) := by decide +kernel
theorem dX6_unlike_57 : decode cX6_unlike 57 = .ok (.iconst 0, 1) := by decide +kernel
theorem dX6_unlike_58 : decode cX6_unlike 58 = .ok (.istore 7, 2) := by decide +kernel
theorem dX6_unlike_60 : decode cX6_unlike 60 = .ok (.iload 7, 2) := by decide +kernel
theorem dX6_unlike_62 : decode cX6_unlike 62 = .ok (.iconst 4, 1) := by decide +kernel
theorem dX6_unlike_63 : decode cX6_unlike 63 = .ok (.if_icmp .ge 73, 3) := by decide +kernel
theorem dX6_unlike_66 : decode cX6_unlike 66 = .ok (.aload_n 0, 1) := by decide +kernel
theorem dX6_unlike_67 : decode cX6_unlike 67 = .ok (.getfield 37, 3) := by decide +kernel
theorem dX6_unlike_70 : decode cX6_unlike 70 = .ok (.iconst 4, 1) := by decide +kernel
theorem dX6_unlike_71 : decode cX6_unlike 71 = .ok (.iload 5, 2) := by decide +kernel
theorem dX6_unlike_73 : decode cX6_unlike 73 = .ok (.imul, 1) := by decide +kernel
theorem dX6_unlike_74 : decode cX6_unlike 74 = .ok (.iload 7, 2) := by decide +kernel
theorem dX6_unlike_76 : decode cX6_unlike 76 = .ok (.iadd, 1) := by decide +kernel
theorem dX6_unlike_77 : decode cX6_unlike 77 = .ok (.iload 7, 2) := by decide +kernel
theorem dX6_unlike_79 : decode cX6_unlike 79 = .ok (.aload_n 0, 1) := by decide +kernel
theorem dX6_unlike_80 : decode cX6_unlike 80 = .ok (.getfield 79, 3) := by decide +kernel
theorem dX6_unlike_83 : decode cX6_unlike 83 = .ok (.if_icmp .ge 22, 3) := by decide +kernel
theorem dX6_unlike_86 : decode cX6_unlike 86 = .ok (.iload_n 2, 1) := by decide +kernel
theorem dX6_unlike_87 : decode cX6_unlike 87 = .ok (.iload 7, 2) := by decide +kernel
theorem dX6_unlike_89 : decode cX6_unlike 89 = .ok (.invokestatic 164, 3) := by decide +kernel
theorem dX6_unlike_92 : decode cX6_unlike 92 = .ok (.ifCond .eq 13, 3) := by decide +kernel
theorem dX6_unlike_95 : decode cX6_unlike 95 = .ok (.aload_n 0, 1) := by decide +kernel
theorem dX6_unlike_96 : decode cX6_unlike 96 = .ok (.getfield 25, 3) := by decide +kernel
theorem dX6_unlike_99 : decode cX6_unlike 99 = .ok (.iload 7, 2) := by decide +kernel
theorem dX6_unlike_101 : decode cX6_unlike 101 = .ok (.iaload, 1) := by decide +kernel
theorem dX6_unlike_102 : decode cX6_unlike 102 = .ok (.goto 4, 3) := by decide +kernel
theorem dX6_unlike_105 : decode cX6_unlike 105 = .ok (.iconst 0, 1) := by decide +kernel
theorem dX6_unlike_106 : decode cX6_unlike 106 = .ok (.iastore, 1) := by decide +kernel
theorem dX6_unlike_107 : decode cX6_unlike 107 = .ok (.bipush 31, 2) := by decide +kernel
theorem dX6_unlike_109 : decode cX6_unlike 109 = .ok (.iload 6, 2) := by decide +kernel
theorem dX6_unlike_111 : decode cX6_unlike 111 = .ok (.imul, 1) := by decide +kernel
theorem dX6_unlike_112 : decode cX6_unlike 112 = .ok (.bipush 7, 2) := by decide +kernel
theorem dX6_unlike_114 : decode cX6_unlike 114 = .ok (.aload_n 0, 1) := by decide +kernel
theorem dX6_unlike_115 : decode cX6_unlike 115 = .ok (.getfield 37, 3) := by decide +kernel
theorem dX6_unlike_118 : decode cX6_unlike 118 = .ok (.iconst 4, 1) := by decide +kernel
theorem dX6_unlike_119 : decode cX6_unlike 119 = .ok (.iload 5, 2) := by decide +kernel
theorem dX6_unlike_121 : decode cX6_unlike 121 = .ok (.imul, 1) := by decide +kernel
theorem dX6_unlike_122 : decode cX6_unlike 122 = .ok (.iload 7, 2) := by decide +kernel
theorem dX6_unlike_124 : decode cX6_unlike 124 = .ok (.iadd, 1) := by decide +kernel
theorem dX6_unlike_125 : decode cX6_unlike 125 = .ok (.iaload, 1) := by decide +kernel
theorem dX6_unlike_126 : decode cX6_unlike 126 = .ok (.imul, 1) := by decide +kernel
theorem dX6_unlike_127 : decode cX6_unlike 127 = .ok (.iadd, 1) := by decide +kernel
theorem dX6_unlike_128 : decode cX6_unlike 128 = .ok (.istore 6, 2) := by decide +kernel
theorem dX6_unlike_130 : decode cX6_unlike 130 = .ok (.iinc 7 1, 3) := by decide +kernel
theorem dX6_unlike_133 : decode cX6_unlike 133 = .ok (.goto (-73), 3) := by decide +kernel
theorem dX6_unlike_136 : decode cX6_unlike 136 = .ok (.iload 6, 2) := by decide +kernel
theorem dX6_unlike_138 : decode cX6_unlike 138 = .ok (.sipush 8191, 3) := by decide +kernel
theorem dX6_unlike_141 : decode cX6_unlike 141 = .ok (.iand, 1) := by decide +kernel
theorem dX6_unlike_142 : decode cX6_unlike 142 = .ok (.istore 7, 2) := by decide +kernel
theorem dX6_unlike_144 : decode cX6_unlike 144 = .ok (.aload_n 0, 1) := by decide +kernel
theorem dX6_unlike_145 : decode cX6_unlike 145 = .ok (.getfield 34, 3) := by decide +kernel
theorem dX6_unlike_148 : decode cX6_unlike 148 = .ok (.iload 7, 2) := by decide +kernel
theorem dX6_unlike_150 : decode cX6_unlike 150 = .ok (.iaload, 1) := by decide +kernel
theorem dX6_unlike_151 : decode cX6_unlike 151 = .ok (.bipush (-9), 2) := by decide +kernel
theorem dX6_unlike_153 : decode cX6_unlike 153 = .ok (.if_icmp .eq 32, 3) := by decide +kernel
theorem dX6_unlike_156 : decode cX6_unlike 156 = .ok (.aload_n 0, 1) := by decide +kernel
theorem dX6_unlike_157 : decode cX6_unlike 157 = .ok (.aload_n 0, 1) := by decide +kernel
theorem dX6_unlike_158 : decode cX6_unlike 158 = .ok (.getfield 34, 3) := by decide +kernel
theorem dX6_unlike_161 : decode cX6_unlike 161 = .ok (.iload 7, 2) := by decide +kernel
theorem dX6_unlike_163 : decode cX6_unlike 163 = .ok (.iaload, 1) := by decide +kernel
theorem dX6_unlike_164 : decode cX6_unlike 164 = .ok (.iload 5, 2) := by decide +kernel
theorem dX6_unlike_166 : decode cX6_unlike 166 = .ok (.invokevirtual 167, 3) := by decide +kernel
theorem dX6_unlike_169 : decode cX6_unlike 169 = .ok (.ifCond .ne 16, 3) := by decide +kernel
theorem dX6_unlike_172 : decode cX6_unlike 172 = .ok (.iload 7, 2) := by decide +kernel
theorem dX6_unlike_174 : decode cX6_unlike 174 = .ok (.iconst 1, 1) := by decide +kernel
theorem dX6_unlike_175 : decode cX6_unlike 175 = .ok (.iadd, 1) := by decide +kernel
theorem dX6_unlike_176 : decode cX6_unlike 176 = .ok (.sipush 8191, 3) := by decide +kernel
theorem dX6_unlike_179 : decode cX6_unlike 179 = .ok (.iand, 1) := by decide +kernel
theorem dX6_unlike_180 : decode cX6_unlike 180 = .ok (.istore 7, 2) := by decide +kernel
theorem dX6_unlike_182 : decode cX6_unlike 182 = .ok (.goto (-38), 3) := by decide +kernel
theorem dX6_unlike_185 : decode cX6_unlike 185 = .ok (.iload 4, 2) := by decide +kernel
theorem dX6_unlike_187 : decode cX6_unlike 187 = .ok (.aload_n 0, 1) := by decide +kernel
theorem dX6_unlike_188 : decode cX6_unlike 188 = .ok (.getfield 34, 3) := by decide +kernel
theorem dX6_unlike_191 : decode cX6_unlike 191 = .ok (.iload 7, 2) := by decide +kernel
theorem dX6_unlike_193 : decode cX6_unlike 193 = .ok (.iaload, 1) := by decide +kernel
theorem dX6_unlike_194 : decode cX6_unlike 194 = .ok (.bipush (-9), 2) := by decide +kernel
theorem dX6_unlike_196 : decode cX6_unlike 196 = .ok (.if_icmp .ne 7, 3) := by decide +kernel
theorem dX6_unlike_199 : decode cX6_unlike 199 = .ok (.iconst 1, 1) := by decide +kernel
theorem dX6_unlike_200 : decode cX6_unlike 200 = .ok (.goto 4, 3) := by decide +kernel
theorem dX6_unlike_203 : decode cX6_unlike 203 = .ok (.iconst 0, 1) := by decide +kernel
theorem dX6_unlike_204 : decode cX6_unlike 204 = .ok (.iadd, 1) := by decide +kernel
theorem dX6_unlike_205 : decode cX6_unlike 205 = .ok (.istore 4, 2) := by decide +kernel
theorem dX6_unlike_207 : decode cX6_unlike 207 = .ok (.aload_n 0, 1) := by decide +kernel
theorem dX6_unlike_208 : decode cX6_unlike 208 = .ok (.getfield 34, 3) := by decide +kernel
theorem dX6_unlike_211 : decode cX6_unlike 211 = .ok (.iload 7, 2) := by decide +kernel
theorem dX6_unlike_213 : decode cX6_unlike 213 = .ok (.iload 5, 2) := by decide +kernel
theorem dX6_unlike_215 : decode cX6_unlike 215 = .ok (.iastore, 1) := by decide +kernel
theorem dX6_unlike_216 : decode cX6_unlike 216 = .ok (.iinc 5 1, 3) := by decide +kernel
theorem dX6_unlike_219 : decode cX6_unlike 219 = .ok (.goto (-187), 3) := by decide +kernel
theorem dX6_unlike_222 : decode cX6_unlike 222 = .ok (.iload 4, 2) := by decide +kernel
theorem dX6_unlike_224 : decode cX6_unlike 224 = .ok (.ireturn, 1) := by decide +kernel
theorem dX6_same_0 : decode cX6_same 0 = .ok (.iconst 1, 1) := by decide +kernel
theorem dX6_same_1 : decode cX6_same 1 = .ok (.istore_n 3, 1) := by decide +kernel
theorem dX6_same_2 : decode cX6_same 2 = .ok (.iconst 0, 1) := by decide +kernel
theorem dX6_same_3 : decode cX6_same 3 = .ok (.istore 4, 2) := by decide +kernel
theorem dX6_same_5 : decode cX6_same 5 = .ok (.iload 4, 2) := by decide +kernel
theorem dX6_same_7 : decode cX6_same 7 = .ok (.iconst 4, 1) := by decide +kernel
theorem dX6_same_8 : decode cX6_same 8 = .ok (.if_icmp .ge 44, 3) := by decide +kernel
theorem dX6_same_11 : decode cX6_same 11 = .ok (.iload_n 3, 1) := by decide +kernel
theorem dX6_same_12 : decode cX6_same 12 = .ok (.ifCond .eq 32, 3) := by decide +kernel
theorem dX6_same_15 : decode cX6_same 15 = .ok (.aload_n 0, 1) := by decide +kernel
theorem dX6_same_16 : decode cX6_same 16 = .ok (.getfield 37, 3) := by decide +kernel
theorem dX6_same_19 : decode cX6_same 19 = .ok (.iconst 4, 1) := by decide +kernel
theorem dX6_same_20 : decode cX6_same 20 = .ok (.iload_n 1, 1) := by decide +kernel
theorem dX6_same_21 : decode cX6_same 21 = .ok (.imul, 1) := by decide +kernel
theorem dX6_same_22 : decode cX6_same 22 = .ok (.iload 4, 2) := by decide +kernel
theorem dX6_same_24 : decode cX6_same 24 = .ok (.iadd, 1) := by decide +kernel
theorem dX6_same_25 : decode cX6_same 25 = .ok (.iaload, 1) := by decide +kernel
theorem dX6_same_26 : decode cX6_same 26 = .ok (.aload_n 0, 1) := by decide +kernel
theorem dX6_same_27 : decode cX6_same 27 = .ok (.getfield 37, 3) := by decide +kernel
theorem dX6_same_30 : decode cX6_same 30 = .ok (.iconst 4, 1) := by decide +kernel
theorem dX6_same_31 : decode cX6_same 31 = .ok (.iload_n 2, 1) := by decide +kernel
theorem dX6_same_32 : decode cX6_same 32 = .ok (.imul, 1) := by decide +kernel
theorem dX6_same_33 : decode cX6_same 33 = .ok (.iload 4, 2) := by decide +kernel
theorem dX6_same_35 : decode cX6_same 35 = .ok (.iadd, 1) := by decide +kernel
theorem dX6_same_36 : decode cX6_same 36 = .ok (.iaload, 1) := by decide +kernel
theorem dX6_same_37 : decode cX6_same 37 = .ok (.if_icmp .ne 7, 3) := by decide +kernel
theorem dX6_same_40 : decode cX6_same 40 = .ok (.iconst 1, 1) := by decide +kernel
theorem dX6_same_41 : decode cX6_same 41 = .ok (.goto 4, 3) := by decide +kernel
theorem dX6_same_44 : decode cX6_same 44 = .ok (.iconst 0, 1) := by decide +kernel
theorem dX6_same_45 : decode cX6_same 45 = .ok (.istore_n 3, 1) := by decide +kernel
theorem dX6_same_46 : decode cX6_same 46 = .ok (.iinc 4 1, 3) := by decide +kernel
theorem dX6_same_49 : decode cX6_same 49 = .ok (.goto (-44), 3) := by decide +kernel
theorem dX6_same_52 : decode cX6_same 52 = .ok (.iload_n 3, 1) := by decide +kernel
theorem dX6_same_53 : decode cX6_same 53 = .ok (.ireturn, 1) := by decide +kernel
set_option maxRecDepth 20000 in
theorem ggX6_fewest_X6_in : GoodIn wsX6_fewest wsX6_in := goodIn_r _ [6] (by decide +kernel) (by decide +kernel)
set_option maxRecDepth 20000 in
theorem gX6_fewest_X6_in : GoodIn wsX6_fewest (va_wsS RX6 52 yX6_in wsX6_in) := goodIn_app (goodIn_of _ (by decide +kernel)) ggX6_fewest_X6_in
set_option maxRecDepth 20000 in
theorem ggX6_fewest_X6_ones : GoodIn wsX6_fewest wsX6_ones := goodIn_r _ [9] (by decide +kernel) (by decide +kernel)
set_option maxRecDepth 20000 in
theorem gX6_fewest_X6_ones : GoodIn wsX6_fewest (va_wsS RX6 170 yX6_ones wsX6_ones) := goodIn_app (goodIn_of _ (by decide +kernel)) ggX6_fewest_X6_ones
set_option maxRecDepth 20000 in
theorem ggX6_fewest_X6_unlike : GoodIn wsX6_fewest wsX6_unlike := goodIn_r _ [13, 14, 15, 2, 16, 17, 18, 5, 19, 20, 21, 22, 23, 24, 25, 26, 27, 28, 29, 30, 31, 32, 33, 34, 35, 36, 37, 38, 39, 40, 41, 42, 43, 44, 45, 46, 47, 48, 49, 50, 51, 52, 53, 54, 55, 56, 57, 58, 59, 60, 61, 62, 63, 64] (by decide +kernel) (by decide +kernel)
set_option maxRecDepth 20000 in
theorem gX6_fewest_X6_unlike : GoodIn wsX6_fewest (wsV RX6 173 RX6 yX6_unlike wsX6_unlike) := goodIn_app (goodIn_of _ (by decide +kernel)) ggX6_fewest_X6_unlike
set_option maxRecDepth 20000 in
theorem ggX6_fewest_X6_fourTo : GoodIn wsX6_fewest wsX6_fourTo := goodIn_r _ [19] (by decide +kernel) (by decide +kernel)
set_option maxRecDepth 20000 in
theorem gX6_fewest_X6_fourTo : GoodIn wsX6_fewest (va_wsS RX6 93 yX6_fourTo wsX6_fourTo) := goodIn_app (goodIn_of _ (by decide +kernel)) ggX6_fewest_X6_fourTo
theorem dX6_fewest_0 : decode cX6_fewest 0 = .ok (.iload_n 1, 1) := by decide +kernel
theorem dX6_fewest_1 : decode cX6_fewest 1 = .ok (.i2l, 1) := by decide +kernel
theorem dX6_fewest_2 : decode cX6_fewest 2 = .ok (.lconst 0, 1) := by decide +kernel
theorem dX6_fewest_3 : decode cX6_fewest 3 = .ok (.ldc2_w 124, 3) := by decide +kernel
theorem dX6_fewest_6 : decode cX6_fewest 6 = .ok (.invokestatic 52, 3) := by decide +kernel
theorem dX6_fewest_9 : decode cX6_fewest 9 = .ok (.ifCond .ne 6, 3) := by decide +kernel
theorem dX6_fewest_12 : decode cX6_fewest 12 = .ok (.bipush (-2), 2) := by decide +kernel
theorem dX6_fewest_14 : decode cX6_fewest 14 = .ok (.ireturn, 1) := by decide +kernel
theorem dX6_fewest_15 : decode cX6_fewest 15 = .ok (.bipush (-9), 2) := by decide +kernel
theorem dX6_fewest_17 : decode cX6_fewest 17 = .ok (.istore_n 2, 1) := by decide +kernel
theorem dX6_fewest_18 : decode cX6_fewest 18 = .ok (.iconst 0, 1) := by decide +kernel
theorem dX6_fewest_19 : decode cX6_fewest 19 = .ok (.istore_n 3, 1) := by decide +kernel
theorem dX6_fewest_20 : decode cX6_fewest 20 = .ok (.iload_n 3, 1) := by decide +kernel
theorem dX6_fewest_21 : decode cX6_fewest 21 = .ok (.iconst 1, 1) := by decide +kernel
theorem dX6_fewest_22 : decode cX6_fewest 22 = .ok (.aload_n 0, 1) := by decide +kernel
theorem dX6_fewest_23 : decode cX6_fewest 23 = .ok (.getfield 79, 3) := by decide +kernel
theorem dX6_fewest_26 : decode cX6_fewest 26 = .ok (.ishl, 1) := by decide +kernel
theorem dX6_fewest_27 : decode cX6_fewest 27 = .ok (.if_icmp .ge 59, 3) := by decide +kernel
theorem dX6_fewest_30 : decode cX6_fewest 30 = .ok (.iload_n 2, 1) := by decide +kernel
theorem dX6_fewest_31 : decode cX6_fewest 31 = .ok (.bipush (-9), 2) := by decide +kernel
theorem dX6_fewest_33 : decode cX6_fewest 33 = .ok (.if_icmp .eq 14, 3) := by decide +kernel
theorem dX6_fewest_36 : decode cX6_fewest 36 = .ok (.iload_n 3, 1) := by decide +kernel
theorem dX6_fewest_37 : decode cX6_fewest 37 = .ok (.invokestatic 170, 3) := by decide +kernel
theorem dX6_fewest_40 : decode cX6_fewest 40 = .ok (.iload_n 2, 1) := by decide +kernel
theorem dX6_fewest_41 : decode cX6_fewest 41 = .ok (.invokestatic 170, 3) := by decide +kernel
theorem dX6_fewest_44 : decode cX6_fewest 44 = .ok (.if_icmp .ge 7, 3) := by decide +kernel
theorem dX6_fewest_47 : decode cX6_fewest 47 = .ok (.iconst 1, 1) := by decide +kernel
theorem dX6_fewest_48 : decode cX6_fewest 48 = .ok (.goto 4, 3) := by decide +kernel
theorem dX6_fewest_51 : decode cX6_fewest 51 = .ok (.iconst 0, 1) := by decide +kernel
theorem dX6_fewest_52 : decode cX6_fewest 52 = .ok (.istore 4, 2) := by decide +kernel
theorem dX6_fewest_54 : decode cX6_fewest 54 = .ok (.iload 4, 2) := by decide +kernel
theorem dX6_fewest_56 : decode cX6_fewest 56 = .ok (.ifCond .eq 22, 3) := by decide +kernel
theorem dX6_fewest_59 : decode cX6_fewest 59 = .ok (.aload_n 0, 1) := by decide +kernel
theorem dX6_fewest_60 : decode cX6_fewest 60 = .ok (.iload_n 1, 1) := by decide +kernel
theorem dX6_fewest_61 : decode cX6_fewest 61 = .ok (.iload_n 3, 1) := by decide +kernel
theorem dX6_fewest_62 : decode cX6_fewest 62 = .ok (.bipush (-9), 2) := by decide +kernel
theorem dX6_fewest_64 : decode cX6_fewest 64 = .ok (.invokevirtual 173, 3) := by decide +kernel
theorem dX6_fewest_67 : decode cX6_fewest 67 = .ok (.iload_n 1, 1) := by decide +kernel
theorem dX6_fewest_68 : decode cX6_fewest 68 = .ok (.invokestatic 93, 3) := by decide +kernel
theorem dX6_fewest_71 : decode cX6_fewest 71 = .ok (.if_icmp .ne 7, 3) := by decide +kernel
theorem dX6_fewest_74 : decode cX6_fewest 74 = .ok (.iload_n 3, 1) := by decide +kernel
theorem dX6_fewest_75 : decode cX6_fewest 75 = .ok (.goto 4, 3) := by decide +kernel
theorem dX6_fewest_78 : decode cX6_fewest 78 = .ok (.iload_n 2, 1) := by decide +kernel
theorem dX6_fewest_79 : decode cX6_fewest 79 = .ok (.istore_n 2, 1) := by decide +kernel
theorem dX6_fewest_80 : decode cX6_fewest 80 = .ok (.iinc 3 1, 3) := by decide +kernel
theorem dX6_fewest_83 : decode cX6_fewest 83 = .ok (.goto (-63), 3) := by decide +kernel
theorem dX6_fewest_86 : decode cX6_fewest 86 = .ok (.iload_n 2, 1) := by decide +kernel
theorem dX6_fewest_87 : decode cX6_fewest 87 = .ok (.ireturn, 1) := by decide +kernel
set_option maxRecDepth 20000 in
theorem ggX6_blindBy_X6_fourTo : GoodIn wsX6_blindBy wsX6_fourTo := goodIn_r _ [4] (by decide +kernel) (by decide +kernel)
set_option maxRecDepth 20000 in
theorem gX6_blindBy_X6_fourTo : GoodIn wsX6_blindBy (va_wsS RX6 93 yX6_fourTo wsX6_fourTo) := goodIn_app (goodIn_of _ (by decide +kernel)) ggX6_blindBy_X6_fourTo
set_option maxRecDepth 20000 in
theorem ggX6_blindBy_X6_unlike : GoodIn wsX6_blindBy wsX6_unlike := goodIn_r _ [8, 9, 10, 11, 12, 1, 2, 3, 4, 13, 14, 15, 16, 17, 18, 19, 20, 21, 22, 23, 24, 25, 26, 27, 28, 29, 30, 31, 32, 33, 34, 35, 36, 37, 38, 39, 40, 41, 42, 43, 44, 45, 46, 47, 48, 49, 50, 51, 52, 53, 54, 55, 56, 57] (by decide +kernel) (by decide +kernel)
set_option maxRecDepth 20000 in
theorem gX6_blindBy_X6_unlike : GoodIn wsX6_blindBy (wsV RX6 173 RX6 yX6_unlike wsX6_unlike) := goodIn_app (goodIn_of _ (by decide +kernel)) ggX6_blindBy_X6_unlike
theorem dX6_blindBy_0 : decode cX6_blindBy 0 = .ok (.iload_n 1, 1) := by decide +kernel
theorem dX6_blindBy_1 : decode cX6_blindBy 1 = .ok (.invokestatic 93, 3) := by decide +kernel
theorem dX6_blindBy_4 : decode cX6_blindBy 4 = .ok (.aload_n 0, 1) := by decide +kernel
theorem dX6_blindBy_5 : decode cX6_blindBy 5 = .ok (.iload_n 1, 1) := by decide +kernel
theorem dX6_blindBy_6 : decode cX6_blindBy 6 = .ok (.bipush 15, 2) := by decide +kernel
theorem dX6_blindBy_8 : decode cX6_blindBy 8 = .ok (.iload_n 2, 1) := by decide +kernel
theorem dX6_blindBy_9 : decode cX6_blindBy 9 = .ok (.invokevirtual 173, 3) := by decide +kernel
theorem dX6_blindBy_12 : decode cX6_blindBy 12 = .ok (.isub, 1) := by decide +kernel
theorem dX6_blindBy_13 : decode cX6_blindBy 13 = .ok (.ireturn, 1) := by decide +kernel
set_option maxRecDepth 20000 in
theorem ggX6_blind_X6_in : GoodIn wsX6_blind wsX6_in := goodIn_r _ [5] (by decide +kernel) (by decide +kernel)
set_option maxRecDepth 20000 in
theorem gX6_blind_X6_in : GoodIn wsX6_blind (va_wsS RX6 52 yX6_in wsX6_in) := goodIn_app (goodIn_of _ (by decide +kernel)) ggX6_blind_X6_in
set_option maxRecDepth 20000 in
theorem ggX6_blind_X6_blindBy : GoodIn wsX6_blind wsX6_blindBy := goodIn_r _ [9, 10, 11, 4, 12, 13, 14, 15, 16, 17, 18, 19, 20, 21, 22, 23, 24, 25, 26, 27, 28, 29, 30, 31, 32, 33, 34, 35, 36, 37, 38, 39, 40, 41, 42, 43, 44, 45, 46, 47, 48, 49, 50, 51, 52, 53, 54, 55, 56, 57, 58, 59, 60, 61, 62, 63, 64, 65] (by decide +kernel) (by decide +kernel)
set_option maxRecDepth 20000 in
theorem gX6_blind_X6_blindBy : GoodIn wsX6_blind (wsV RX6 176 RX6 yX6_blindBy wsX6_blindBy) := goodIn_app (goodIn_of _ (by decide +kernel)) ggX6_blind_X6_blindBy
theorem dX6_blind_0 : decode cX6_blind 0 = .ok (.iload_n 1, 1) := by decide +kernel
theorem dX6_blind_1 : decode cX6_blind 1 = .ok (.i2l, 1) := by decide +kernel
theorem dX6_blind_2 : decode cX6_blind 2 = .ok (.lconst 0, 1) := by decide +kernel
theorem dX6_blind_3 : decode cX6_blind 3 = .ok (.ldc2_w 124, 3) := by decide +kernel
theorem dX6_blind_6 : decode cX6_blind 6 = .ok (.invokestatic 52, 3) := by decide +kernel
theorem dX6_blind_9 : decode cX6_blind 9 = .ok (.ifCond .eq 13, 3) := by decide +kernel
theorem dX6_blind_12 : decode cX6_blind 12 = .ok (.aload_n 0, 1) := by decide +kernel
theorem dX6_blind_13 : decode cX6_blind 13 = .ok (.iload_n 1, 1) := by decide +kernel
theorem dX6_blind_14 : decode cX6_blind 14 = .ok (.bipush (-9), 2) := by decide +kernel
theorem dX6_blind_16 : decode cX6_blind 16 = .ok (.invokevirtual 176, 3) := by decide +kernel
theorem dX6_blind_19 : decode cX6_blind 19 = .ok (.goto 5, 3) := by decide +kernel
theorem dX6_blind_22 : decode cX6_blind 22 = .ok (.bipush (-2), 2) := by decide +kernel
theorem dX6_blind_24 : decode cX6_blind 24 = .ok (.ireturn, 1) := by decide +kernel
set_option maxRecDepth 20000 in
theorem ggX6_whom_X6_in : GoodIn wsX6_whom wsX6_in := goodIn_r _ [6] (by decide +kernel) (by decide +kernel)
set_option maxRecDepth 20000 in
theorem gX6_whom_X6_in : GoodIn wsX6_whom (va_wsS RX6 52 yX6_in wsX6_in) := goodIn_app (goodIn_of _ (by decide +kernel)) ggX6_whom_X6_in
set_option maxRecDepth 20000 in
theorem ggX6_whom_X6_blindBy : GoodIn wsX6_whom wsX6_blindBy := goodIn_r _ [10, 11, 12, 5, 13, 14, 15, 16, 17, 18, 19, 2, 20, 21, 22, 23, 24, 25, 26, 27, 28, 29, 30, 31, 32, 33, 34, 35, 36, 37, 38, 39, 40, 41, 42, 43, 44, 45, 46, 47, 48, 49, 50, 51, 52, 53, 54, 55, 56, 57, 58, 59, 60, 61, 62, 63, 64, 65] (by decide +kernel) (by decide +kernel)
set_option maxRecDepth 20000 in
theorem gX6_whom_X6_blindBy : GoodIn wsX6_whom (wsV RX6 176 RX6 yX6_blindBy wsX6_blindBy) := goodIn_app (goodIn_of _ (by decide +kernel)) ggX6_whom_X6_blindBy
theorem dX6_whom_0 : decode cX6_whom 0 = .ok (.iload_n 1, 1) := by decide +kernel
theorem dX6_whom_1 : decode cX6_whom 1 = .ok (.i2l, 1) := by decide +kernel
theorem dX6_whom_2 : decode cX6_whom 2 = .ok (.lconst 0, 1) := by decide +kernel
theorem dX6_whom_3 : decode cX6_whom 3 = .ok (.ldc2_w 124, 3) := by decide +kernel
theorem dX6_whom_6 : decode cX6_whom 6 = .ok (.invokestatic 52, 3) := by decide +kernel
theorem dX6_whom_9 : decode cX6_whom 9 = .ok (.ifCond .ne 6, 3) := by decide +kernel
theorem dX6_whom_12 : decode cX6_whom 12 = .ok (.bipush (-2), 2) := by decide +kernel
theorem dX6_whom_14 : decode cX6_whom 14 = .ok (.ireturn, 1) := by decide +kernel
theorem dX6_whom_15 : decode cX6_whom 15 = .ok (.aload_n 0, 1) := by decide +kernel
theorem dX6_whom_16 : decode cX6_whom 16 = .ok (.iload_n 1, 1) := by decide +kernel
theorem dX6_whom_17 : decode cX6_whom 17 = .ok (.bipush (-9), 2) := by decide +kernel
theorem dX6_whom_19 : decode cX6_whom 19 = .ok (.invokevirtual 176, 3) := by decide +kernel
theorem dX6_whom_22 : decode cX6_whom 22 = .ok (.istore_n 2, 1) := by decide +kernel
theorem dX6_whom_23 : decode cX6_whom 23 = .ok (.bipush (-9), 2) := by decide +kernel
theorem dX6_whom_25 : decode cX6_whom 25 = .ok (.istore_n 3, 1) := by decide +kernel
theorem dX6_whom_26 : decode cX6_whom 26 = .ok (.iconst 0, 1) := by decide +kernel
theorem dX6_whom_27 : decode cX6_whom 27 = .ok (.istore 4, 2) := by decide +kernel
theorem dX6_whom_29 : decode cX6_whom 29 = .ok (.iload 4, 2) := by decide +kernel
theorem dX6_whom_31 : decode cX6_whom 31 = .ok (.aload_n 0, 1) := by decide +kernel
theorem dX6_whom_32 : decode cX6_whom 32 = .ok (.getfield 79, 3) := by decide +kernel
theorem dX6_whom_35 : decode cX6_whom 35 = .ok (.if_icmp .ge 44, 3) := by decide +kernel
theorem dX6_whom_38 : decode cX6_whom 38 = .ok (.aload_n 0, 1) := by decide +kernel
theorem dX6_whom_39 : decode cX6_whom 39 = .ok (.iload_n 1, 1) := by decide +kernel
theorem dX6_whom_40 : decode cX6_whom 40 = .ok (.iload 4, 2) := by decide +kernel
theorem dX6_whom_42 : decode cX6_whom 42 = .ok (.invokevirtual 176, 3) := by decide +kernel
theorem dX6_whom_45 : decode cX6_whom 45 = .ok (.istore 5, 2) := by decide +kernel
theorem dX6_whom_47 : decode cX6_whom 47 = .ok (.iload 5, 2) := by decide +kernel
theorem dX6_whom_49 : decode cX6_whom 49 = .ok (.iload_n 2, 1) := by decide +kernel
theorem dX6_whom_50 : decode cX6_whom 50 = .ok (.if_icmp .ge 8, 3) := by decide +kernel
theorem dX6_whom_53 : decode cX6_whom 53 = .ok (.iload 4, 2) := by decide +kernel
theorem dX6_whom_55 : decode cX6_whom 55 = .ok (.goto 4, 3) := by decide +kernel
theorem dX6_whom_58 : decode cX6_whom 58 = .ok (.iload_n 3, 1) := by decide +kernel
theorem dX6_whom_59 : decode cX6_whom 59 = .ok (.istore_n 3, 1) := by decide +kernel
theorem dX6_whom_60 : decode cX6_whom 60 = .ok (.iload 5, 2) := by decide +kernel
theorem dX6_whom_62 : decode cX6_whom 62 = .ok (.iload_n 2, 1) := by decide +kernel
theorem dX6_whom_63 : decode cX6_whom 63 = .ok (.if_icmp .ge 8, 3) := by decide +kernel
theorem dX6_whom_66 : decode cX6_whom 66 = .ok (.iload 5, 2) := by decide +kernel
theorem dX6_whom_68 : decode cX6_whom 68 = .ok (.goto 4, 3) := by decide +kernel
theorem dX6_whom_71 : decode cX6_whom 71 = .ok (.iload_n 2, 1) := by decide +kernel
theorem dX6_whom_72 : decode cX6_whom 72 = .ok (.istore_n 2, 1) := by decide +kernel
theorem dX6_whom_73 : decode cX6_whom 73 = .ok (.iinc 4 1, 3) := by decide +kernel
theorem dX6_whom_76 : decode cX6_whom 76 = .ok (.goto (-47), 3) := by decide +kernel
theorem dX6_whom_79 : decode cX6_whom 79 = .ok (.iload_n 3, 1) := by decide +kernel
theorem dX6_whom_80 : decode cX6_whom 80 = .ok (.ireturn, 1) := by decide +kernel
set_option maxRecDepth 20000 in
theorem ggX6_tells_X6_wordsOf : GoodIn wsX6_tells wsX6_wordsOf := goodIn_r _ [8] (by decide +kernel) (by decide +kernel)
set_option maxRecDepth 20000 in
theorem gX6_tells_X6_wordsOf : GoodIn wsX6_tells (va_wsS RX6 89 yX6_wordsOf wsX6_wordsOf) := goodIn_app (goodIn_of _ (by decide +kernel)) ggX6_tells_X6_wordsOf
set_option maxRecDepth 20000 in
theorem ggX6_tells_X6_layPages : GoodIn wsX6_tells wsX6_layPages := goodIn_r _ [12, 4, 1, 3, 13, 14, 15, 16, 7, 17, 5, 6, 8, 18, 19, 20, 21, 22, 23, 24, 25, 26, 30, 31, 32, 33, 34, 35, 36, 37, 38, 39, 40, 41, 42, 43, 44, 45, 46, 47, 48] (by decide +kernel) (by decide +kernel)
set_option maxRecDepth 20000 in
theorem gX6_tells_X6_layPages : GoodIn wsX6_tells (wsV RX6 109 RX6 yX6_layPages wsX6_layPages) := goodIn_app (goodIn_of _ (by decide +kernel)) ggX6_tells_X6_layPages
set_option maxRecDepth 20000 in
theorem ggX6_tells_X6_fourTo : GoodIn wsX6_tells wsX6_fourTo := goodIn_r _ [23] (by decide +kernel) (by decide +kernel)
set_option maxRecDepth 20000 in
theorem gX6_tells_X6_fourTo : GoodIn wsX6_tells (va_wsS RX6 93 yX6_fourTo wsX6_fourTo) := goodIn_app (goodIn_of _ (by decide +kernel)) ggX6_tells_X6_fourTo
set_option maxRecDepth 20000 in
theorem ggX6_tells_X6_has : GoodIn wsX6_tells wsX6_has := goodIn_r _ [29] (by decide +kernel) (by decide +kernel)
set_option maxRecDepth 20000 in
theorem gX6_tells_X6_has : GoodIn wsX6_tells (va_wsS RX6 164 yX6_has wsX6_has) := goodIn_app (goodIn_of _ (by decide +kernel)) ggX6_tells_X6_has
theorem dX6_tells_0 : decode cX6_tells 0 = .ok (.aload_n 0, 1) := by decide +kernel
theorem dX6_tells_1 : decode cX6_tells 1 = .ok (.getfield 16, 3) := by decide +kernel
theorem dX6_tells_4 : decode cX6_tells 4 = .ok (.iconst 0, 1) := by decide +kernel
theorem dX6_tells_5 : decode cX6_tells 5 = .ok (.iaload, 1) := by decide +kernel
theorem dX6_tells_6 : decode cX6_tells 6 = .ok (.invokestatic 89, 3) := by decide +kernel
theorem dX6_tells_9 : decode cX6_tells 9 = .ok (.istore_n 2, 1) := by decide +kernel
theorem dX6_tells_10 : decode cX6_tells 10 = .ok (.aload_n 0, 1) := by decide +kernel
theorem dX6_tells_11 : decode cX6_tells 11 = .ok (.aload_n 0, 1) := by decide +kernel
theorem dX6_tells_12 : decode cX6_tells 12 = .ok (.getfield 16, 3) := by decide +kernel
theorem dX6_tells_15 : decode cX6_tells 15 = .ok (.iconst 0, 1) := by decide +kernel
theorem dX6_tells_16 : decode cX6_tells 16 = .ok (.iaload, 1) := by decide +kernel
theorem dX6_tells_17 : decode cX6_tells 17 = .ok (.bipush (-9), 2) := by decide +kernel
theorem dX6_tells_19 : decode cX6_tells 19 = .ok (.invokevirtual 109, 3) := by decide +kernel
theorem dX6_tells_22 : decode cX6_tells 22 = .ok (.iconst 0, 1) := by decide +kernel
theorem dX6_tells_23 : decode cX6_tells 23 = .ok (.istore_n 3, 1) := by decide +kernel
theorem dX6_tells_24 : decode cX6_tells 24 = .ok (.iload_n 3, 1) := by decide +kernel
theorem dX6_tells_25 : decode cX6_tells 25 = .ok (.iconst 4, 1) := by decide +kernel
theorem dX6_tells_26 : decode cX6_tells 26 = .ok (.if_icmp .ge 21, 3) := by decide +kernel
theorem dX6_tells_29 : decode cX6_tells 29 = .ok (.aload_n 0, 1) := by decide +kernel
theorem dX6_tells_30 : decode cX6_tells 30 = .ok (.getfield 40, 3) := by decide +kernel
theorem dX6_tells_33 : decode cX6_tells 33 = .ok (.iload_n 3, 1) := by decide +kernel
theorem dX6_tells_34 : decode cX6_tells 34 = .ok (.aload_n 0, 1) := by decide +kernel
theorem dX6_tells_35 : decode cX6_tells 35 = .ok (.getfield 25, 3) := by decide +kernel
theorem dX6_tells_38 : decode cX6_tells 38 = .ok (.iload_n 3, 1) := by decide +kernel
theorem dX6_tells_39 : decode cX6_tells 39 = .ok (.iaload, 1) := by decide +kernel
theorem dX6_tells_40 : decode cX6_tells 40 = .ok (.iastore, 1) := by decide +kernel
theorem dX6_tells_41 : decode cX6_tells 41 = .ok (.iinc 3 1, 3) := by decide +kernel
theorem dX6_tells_44 : decode cX6_tells 44 = .ok (.goto (-20), 3) := by decide +kernel
theorem dX6_tells_47 : decode cX6_tells 47 = .ok (.iconst 1, 1) := by decide +kernel
theorem dX6_tells_48 : decode cX6_tells 48 = .ok (.istore_n 3, 1) := by decide +kernel
theorem dX6_tells_49 : decode cX6_tells 49 = .ok (.iconst 0, 1) := by decide +kernel
theorem dX6_tells_50 : decode cX6_tells 50 = .ok (.istore 4, 2) := by decide +kernel
theorem dX6_tells_52 : decode cX6_tells 52 = .ok (.iload 4, 2) := by decide +kernel
theorem dX6_tells_54 : decode cX6_tells 54 = .ok (.iload_n 2, 1) := by decide +kernel
theorem dX6_tells_55 : decode cX6_tells 55 = .ok (.invokestatic 93, 3) := by decide +kernel
theorem dX6_tells_58 : decode cX6_tells 58 = .ok (.if_icmp .ge 118, 3) := by decide +kernel
theorem dX6_tells_61 : decode cX6_tells 61 = .ok (.iload_n 3, 1) := by decide +kernel
theorem dX6_tells_62 : decode cX6_tells 62 = .ok (.ifCond .eq 114, 3) := by decide +kernel
theorem dX6_tells_65 : decode cX6_tells 65 = .ok (.aload_n 0, 1) := by decide +kernel
theorem dX6_tells_66 : decode cX6_tells 66 = .ok (.iload_n 2, 1) := by decide +kernel
theorem dX6_tells_67 : decode cX6_tells 67 = .ok (.sipush 4096, 3) := by decide +kernel
theorem dX6_tells_70 : decode cX6_tells 70 = .ok (.imul, 1) := by decide +kernel
theorem dX6_tells_71 : decode cX6_tells 71 = .ok (.iload 4, 2) := by decide +kernel
theorem dX6_tells_73 : decode cX6_tells 73 = .ok (.iadd, 1) := by decide +kernel
theorem dX6_tells_74 : decode cX6_tells 74 = .ok (.bipush (-9), 2) := by decide +kernel
theorem dX6_tells_76 : decode cX6_tells 76 = .ok (.invokevirtual 109, 3) := by decide +kernel
theorem dX6_tells_79 : decode cX6_tells 79 = .ok (.iload_n 2, 1) := by decide +kernel
theorem dX6_tells_80 : decode cX6_tells 80 = .ok (.sipush 4096, 3) := by decide +kernel
theorem dX6_tells_83 : decode cX6_tells 83 = .ok (.imul, 1) := by decide +kernel
theorem dX6_tells_84 : decode cX6_tells 84 = .ok (.iload 4, 2) := by decide +kernel
theorem dX6_tells_86 : decode cX6_tells 86 = .ok (.iadd, 1) := by decide +kernel
theorem dX6_tells_87 : decode cX6_tells 87 = .ok (.aload_n 0, 1) := by decide +kernel
theorem dX6_tells_88 : decode cX6_tells 88 = .ok (.getfield 16, 3) := by decide +kernel
theorem dX6_tells_91 : decode cX6_tells 91 = .ok (.iconst 0, 1) := by decide +kernel
theorem dX6_tells_92 : decode cX6_tells 92 = .ok (.iaload, 1) := by decide +kernel
theorem dX6_tells_93 : decode cX6_tells 93 = .ok (.if_icmp .eq 7, 3) := by decide +kernel
theorem dX6_tells_96 : decode cX6_tells 96 = .ok (.iconst 1, 1) := by decide +kernel
theorem dX6_tells_97 : decode cX6_tells 97 = .ok (.goto 4, 3) := by decide +kernel
theorem dX6_tells_100 : decode cX6_tells 100 = .ok (.iconst 0, 1) := by decide +kernel
theorem dX6_tells_101 : decode cX6_tells 101 = .ok (.istore 5, 2) := by decide +kernel
theorem dX6_tells_103 : decode cX6_tells 103 = .ok (.iconst 0, 1) := by decide +kernel
theorem dX6_tells_104 : decode cX6_tells 104 = .ok (.istore 6, 2) := by decide +kernel
theorem dX6_tells_106 : decode cX6_tells 106 = .ok (.iload 6, 2) := by decide +kernel
theorem dX6_tells_108 : decode cX6_tells 108 = .ok (.aload_n 0, 1) := by decide +kernel
theorem dX6_tells_109 : decode cX6_tells 109 = .ok (.getfield 79, 3) := by decide +kernel
theorem dX6_tells_112 : decode cX6_tells 112 = .ok (.if_icmp .ge 47, 3) := by decide +kernel
theorem dX6_tells_115 : decode cX6_tells 115 = .ok (.iload 5, 2) := by decide +kernel
theorem dX6_tells_117 : decode cX6_tells 117 = .ok (.ifCond .eq 33, 3) := by decide +kernel
theorem dX6_tells_120 : decode cX6_tells 120 = .ok (.iload_n 1, 1) := by decide +kernel
theorem dX6_tells_121 : decode cX6_tells 121 = .ok (.iload 6, 2) := by decide +kernel
theorem dX6_tells_123 : decode cX6_tells 123 = .ok (.invokestatic 164, 3) := by decide +kernel
theorem dX6_tells_126 : decode cX6_tells 126 = .ok (.ifCond .eq 20, 3) := by decide +kernel
theorem dX6_tells_129 : decode cX6_tells 129 = .ok (.aload_n 0, 1) := by decide +kernel
theorem dX6_tells_130 : decode cX6_tells 130 = .ok (.getfield 25, 3) := by decide +kernel
theorem dX6_tells_133 : decode cX6_tells 133 = .ok (.iload 6, 2) := by decide +kernel
theorem dX6_tells_135 : decode cX6_tells 135 = .ok (.iaload, 1) := by decide +kernel
theorem dX6_tells_136 : decode cX6_tells 136 = .ok (.aload_n 0, 1) := by decide +kernel
theorem dX6_tells_137 : decode cX6_tells 137 = .ok (.getfield 40, 3) := by decide +kernel
theorem dX6_tells_140 : decode cX6_tells 140 = .ok (.iload 6, 2) := by decide +kernel
theorem dX6_tells_142 : decode cX6_tells 142 = .ok (.iaload, 1) := by decide +kernel
theorem dX6_tells_143 : decode cX6_tells 143 = .ok (.if_icmp .ne 7, 3) := by decide +kernel
theorem dX6_tells_146 : decode cX6_tells 146 = .ok (.iconst 1, 1) := by decide +kernel
theorem dX6_tells_147 : decode cX6_tells 147 = .ok (.goto 4, 3) := by decide +kernel
theorem dX6_tells_150 : decode cX6_tells 150 = .ok (.iconst 0, 1) := by decide +kernel
theorem dX6_tells_151 : decode cX6_tells 151 = .ok (.istore 5, 2) := by decide +kernel
theorem dX6_tells_153 : decode cX6_tells 153 = .ok (.iinc 6 1, 3) := by decide +kernel
theorem dX6_tells_156 : decode cX6_tells 156 = .ok (.goto (-50), 3) := by decide +kernel
theorem dX6_tells_159 : decode cX6_tells 159 = .ok (.iload 5, 2) := by decide +kernel
theorem dX6_tells_161 : decode cX6_tells 161 = .ok (.ifCond .ne 7, 3) := by decide +kernel
theorem dX6_tells_164 : decode cX6_tells 164 = .ok (.iconst 1, 1) := by decide +kernel
theorem dX6_tells_165 : decode cX6_tells 165 = .ok (.goto 4, 3) := by decide +kernel
theorem dX6_tells_168 : decode cX6_tells 168 = .ok (.iconst 0, 1) := by decide +kernel
theorem dX6_tells_169 : decode cX6_tells 169 = .ok (.istore_n 3, 1) := by decide +kernel
theorem dX6_tells_170 : decode cX6_tells 170 = .ok (.iinc 4 1, 3) := by decide +kernel
theorem dX6_tells_173 : decode cX6_tells 173 = .ok (.goto (-121), 3) := by decide +kernel
theorem dX6_tells_176 : decode cX6_tells 176 = .ok (.iload_n 3, 1) := by decide +kernel
theorem dX6_tells_177 : decode cX6_tells 177 = .ok (.ireturn, 1) := by decide +kernel
set_option maxRecDepth 20000 in
theorem ggX6_lost_X6_in : GoodIn wsX6_lost wsX6_in := goodIn_r _ [7] (by decide +kernel) (by decide +kernel)
set_option maxRecDepth 20000 in
theorem gX6_lost_X6_in : GoodIn wsX6_lost (va_wsS RX6 52 yX6_in wsX6_in) := goodIn_app (goodIn_of _ (by decide +kernel)) ggX6_lost_X6_in
set_option maxRecDepth 20000 in
theorem ggX6_lost_X6_wordsOf : GoodIn wsX6_lost wsX6_wordsOf := goodIn_r _ [10] (by decide +kernel) (by decide +kernel)
set_option maxRecDepth 20000 in
theorem gX6_lost_X6_wordsOf : GoodIn wsX6_lost (va_wsS RX6 89 yX6_wordsOf wsX6_wordsOf) := goodIn_app (goodIn_of _ (by decide +kernel)) ggX6_lost_X6_wordsOf
set_option maxRecDepth 20000 in
theorem ggX6_lost_X6_has : GoodIn wsX6_lost wsX6_has := goodIn_r _ [13] (by decide +kernel) (by decide +kernel)
set_option maxRecDepth 20000 in
theorem gX6_lost_X6_has : GoodIn wsX6_lost (va_wsS RX6 164 yX6_has wsX6_has) := goodIn_app (goodIn_of _ (by decide +kernel)) ggX6_lost_X6_has
set_option maxRecDepth 20000 in
theorem ggX6_lost_X6_tells : GoodIn wsX6_lost wsX6_tells := goodIn_r _ [17, 2, 18, 19, 3, 8, 9, 6, 10, 20, 21, 22, 23, 24, 25, 26, 27, 28, 29, 30, 31, 32, 33, 34, 35, 36, 37, 11, 12, 13, 41, 42, 43, 44, 45, 46, 47, 48, 49, 50, 51, 52, 53, 54, 55, 56, 57, 58, 59] (by decide +kernel) (by decide +kernel)
set_option maxRecDepth 20000 in
theorem gX6_lost_X6_tells : GoodIn wsX6_lost (wsV RX6 181 RX6 yX6_tells wsX6_tells) := goodIn_app (goodIn_of _ (by decide +kernel)) ggX6_lost_X6_tells
set_option maxRecDepth 20000 in
theorem ggX6_lost_X6_common : GoodIn wsX6_lost wsX6_common := goodIn_r _ [40] (by decide +kernel) (by decide +kernel)
set_option maxRecDepth 20000 in
theorem gX6_lost_X6_common : GoodIn wsX6_lost (va_wsS RX6 142 yX6_common wsX6_common) := goodIn_app (goodIn_of _ (by decide +kernel)) ggX6_lost_X6_common
theorem dX6_lost_0 : decode cX6_lost 0 = .ok (.iload_n 1, 1) := by decide +kernel
theorem dX6_lost_1 : decode cX6_lost 1 = .ok (.i2l, 1) := by decide +kernel
theorem dX6_lost_2 : decode cX6_lost 2 = .ok (.lconst 0, 1) := by decide +kernel
theorem dX6_lost_3 : decode cX6_lost 3 = .ok (.ldc2_w 179, 3) := by decide +kernel
theorem dX6_lost_6 : decode cX6_lost 6 = .ok (.invokestatic 52, 3) := by decide +kernel
theorem dX6_lost_9 : decode cX6_lost 9 = .ok (.ifCond .ne 6, 3) := by decide +kernel
theorem dX6_lost_12 : decode cX6_lost 12 = .ok (.bipush (-2), 2) := by decide +kernel
theorem dX6_lost_14 : decode cX6_lost 14 = .ok (.ireturn, 1) := by decide +kernel
theorem dX6_lost_15 : decode cX6_lost 15 = .ok (.aload_n 0, 1) := by decide +kernel
theorem dX6_lost_16 : decode cX6_lost 16 = .ok (.getfield 16, 3) := by decide +kernel
theorem dX6_lost_19 : decode cX6_lost 19 = .ok (.iconst 0, 1) := by decide +kernel
theorem dX6_lost_20 : decode cX6_lost 20 = .ok (.iaload, 1) := by decide +kernel
theorem dX6_lost_21 : decode cX6_lost 21 = .ok (.invokestatic 89, 3) := by decide +kernel
theorem dX6_lost_24 : decode cX6_lost 24 = .ok (.bipush 6, 2) := by decide +kernel
theorem dX6_lost_26 : decode cX6_lost 26 = .ok (.if_icmp .ne 6, 3) := by decide +kernel
theorem dX6_lost_29 : decode cX6_lost 29 = .ok (.bipush (-3), 2) := by decide +kernel
theorem dX6_lost_31 : decode cX6_lost 31 = .ok (.ireturn, 1) := by decide +kernel
theorem dX6_lost_32 : decode cX6_lost 32 = .ok (.iconst 0, 1) := by decide +kernel
theorem dX6_lost_33 : decode cX6_lost 33 = .ok (.istore_n 3, 1) := by decide +kernel
theorem dX6_lost_34 : decode cX6_lost 34 = .ok (.iconst 0, 1) := by decide +kernel
theorem dX6_lost_35 : decode cX6_lost 35 = .ok (.istore 4, 2) := by decide +kernel
theorem dX6_lost_37 : decode cX6_lost 37 = .ok (.iconst 0, 1) := by decide +kernel
theorem dX6_lost_38 : decode cX6_lost 38 = .ok (.istore 5, 2) := by decide +kernel
theorem dX6_lost_40 : decode cX6_lost 40 = .ok (.iload 5, 2) := by decide +kernel
theorem dX6_lost_42 : decode cX6_lost 42 = .ok (.iconst 1, 1) := by decide +kernel
theorem dX6_lost_43 : decode cX6_lost 43 = .ok (.aload_n 0, 1) := by decide +kernel
theorem dX6_lost_44 : decode cX6_lost 44 = .ok (.getfield 79, 3) := by decide +kernel
theorem dX6_lost_47 : decode cX6_lost 47 = .ok (.ishl, 1) := by decide +kernel
theorem dX6_lost_48 : decode cX6_lost 48 = .ok (.if_icmp .ge 83, 3) := by decide +kernel
theorem dX6_lost_51 : decode cX6_lost 51 = .ok (.iconst 1, 1) := by decide +kernel
theorem dX6_lost_52 : decode cX6_lost 52 = .ok (.istore 6, 2) := by decide +kernel
theorem dX6_lost_54 : decode cX6_lost 54 = .ok (.iconst 0, 1) := by decide +kernel
theorem dX6_lost_55 : decode cX6_lost 55 = .ok (.istore 7, 2) := by decide +kernel
theorem dX6_lost_57 : decode cX6_lost 57 = .ok (.iload 7, 2) := by decide +kernel
theorem dX6_lost_59 : decode cX6_lost 59 = .ok (.aload_n 0, 1) := by decide +kernel
theorem dX6_lost_60 : decode cX6_lost 60 = .ok (.getfield 79, 3) := by decide +kernel
theorem dX6_lost_63 : decode cX6_lost 63 = .ok (.if_icmp .ge 32, 3) := by decide +kernel
theorem dX6_lost_66 : decode cX6_lost 66 = .ok (.iload 6, 2) := by decide +kernel
theorem dX6_lost_68 : decode cX6_lost 68 = .ok (.iload 5, 2) := by decide +kernel
theorem dX6_lost_70 : decode cX6_lost 70 = .ok (.iload 7, 2) := by decide +kernel
theorem dX6_lost_72 : decode cX6_lost 72 = .ok (.invokestatic 164, 3) := by decide +kernel
theorem dX6_lost_75 : decode cX6_lost 75 = .ok (.ifCond .eq 10, 3) := by decide +kernel
theorem dX6_lost_78 : decode cX6_lost 78 = .ok (.bipush 10, 2) := by decide +kernel
theorem dX6_lost_80 : decode cX6_lost 80 = .ok (.iload_n 1, 1) := by decide +kernel
theorem dX6_lost_81 : decode cX6_lost 81 = .ok (.isub, 1) := by decide +kernel
theorem dX6_lost_82 : decode cX6_lost 82 = .ok (.goto 4, 3) := by decide +kernel
theorem dX6_lost_85 : decode cX6_lost 85 = .ok (.iload_n 1, 1) := by decide +kernel
theorem dX6_lost_86 : decode cX6_lost 86 = .ok (.imul, 1) := by decide +kernel
theorem dX6_lost_87 : decode cX6_lost 87 = .ok (.istore 6, 2) := by decide +kernel
theorem dX6_lost_89 : decode cX6_lost 89 = .ok (.iinc 7 1, 3) := by decide +kernel
theorem dX6_lost_92 : decode cX6_lost 92 = .ok (.goto (-35), 3) := by decide +kernel
theorem dX6_lost_95 : decode cX6_lost 95 = .ok (.iload 4, 2) := by decide +kernel
theorem dX6_lost_97 : decode cX6_lost 97 = .ok (.iload 6, 2) := by decide +kernel
theorem dX6_lost_99 : decode cX6_lost 99 = .ok (.iadd, 1) := by decide +kernel
theorem dX6_lost_100 : decode cX6_lost 100 = .ok (.istore 4, 2) := by decide +kernel
theorem dX6_lost_102 : decode cX6_lost 102 = .ok (.iload_n 3, 1) := by decide +kernel
theorem dX6_lost_103 : decode cX6_lost 103 = .ok (.iload 6, 2) := by decide +kernel
theorem dX6_lost_105 : decode cX6_lost 105 = .ok (.ifCond .le 17, 3) := by decide +kernel
theorem dX6_lost_108 : decode cX6_lost 108 = .ok (.aload_n 0, 1) := by decide +kernel
theorem dX6_lost_109 : decode cX6_lost 109 = .ok (.iload 5, 2) := by decide +kernel
theorem dX6_lost_111 : decode cX6_lost 111 = .ok (.invokevirtual 181, 3) := by decide +kernel
theorem dX6_lost_114 : decode cX6_lost 114 = .ok (.ifCond .eq 8, 3) := by decide +kernel
theorem dX6_lost_117 : decode cX6_lost 117 = .ok (.iload 6, 2) := by decide +kernel
theorem dX6_lost_119 : decode cX6_lost 119 = .ok (.goto 4, 3) := by decide +kernel
theorem dX6_lost_122 : decode cX6_lost 122 = .ok (.iconst 0, 1) := by decide +kernel
theorem dX6_lost_123 : decode cX6_lost 123 = .ok (.iadd, 1) := by decide +kernel
theorem dX6_lost_124 : decode cX6_lost 124 = .ok (.istore_n 3, 1) := by decide +kernel
theorem dX6_lost_125 : decode cX6_lost 125 = .ok (.iinc 5 1, 3) := by decide +kernel
theorem dX6_lost_128 : decode cX6_lost 128 = .ok (.goto (-88), 3) := by decide +kernel
theorem dX6_lost_131 : decode cX6_lost 131 = .ok (.iload_n 3, 1) := by decide +kernel
theorem dX6_lost_132 : decode cX6_lost 132 = .ok (.iload 4, 2) := by decide +kernel
theorem dX6_lost_134 : decode cX6_lost 134 = .ok (.invokestatic 142, 3) := by decide +kernel
theorem dX6_lost_137 : decode cX6_lost 137 = .ok (.istore 5, 2) := by decide +kernel
theorem dX6_lost_139 : decode cX6_lost 139 = .ok (.iload_n 2, 1) := by decide +kernel
theorem dX6_lost_140 : decode cX6_lost 140 = .ok (.ifCond .eq 10, 3) := by decide +kernel
theorem dX6_lost_143 : decode cX6_lost 143 = .ok (.iload_n 3, 1) := by decide +kernel
theorem dX6_lost_144 : decode cX6_lost 144 = .ok (.iload 5, 2) := by decide +kernel
theorem dX6_lost_146 : decode cX6_lost 146 = .ok (.idiv, 1) := by decide +kernel
theorem dX6_lost_147 : decode cX6_lost 147 = .ok (.goto 8, 3) := by decide +kernel
theorem dX6_lost_150 : decode cX6_lost 150 = .ok (.iload 4, 2) := by decide +kernel
theorem dX6_lost_152 : decode cX6_lost 152 = .ok (.iload 5, 2) := by decide +kernel
theorem dX6_lost_154 : decode cX6_lost 154 = .ok (.idiv, 1) := by decide +kernel
theorem dX6_lost_155 : decode cX6_lost 155 = .ok (.ireturn, 1) := by decide +kernel
theorem dX6_seed_0 : decode cX6_seed 0 = .ok (.aload_n 0, 1) := by decide +kernel
theorem dX6_seed_1 : decode cX6_seed 1 = .ok (.getfield 184, 3) := by decide +kernel
theorem dX6_seed_4 : decode cX6_seed 4 = .ok (.lstore_n 3, 1) := by decide +kernel
theorem dX6_seed_5 : decode cX6_seed 5 = .ok (.aload_n 0, 1) := by decide +kernel
theorem dX6_seed_6 : decode cX6_seed 6 = .ok (.lload_n 1, 1) := by decide +kernel
theorem dX6_seed_7 : decode cX6_seed 7 = .ok (.putfield 184, 3) := by decide +kernel
theorem dX6_seed_10 : decode cX6_seed 10 = .ok (.lload_n 3, 1) := by decide +kernel
theorem dX6_seed_11 : decode cX6_seed 11 = .ok (.lreturn, 1) := by decide +kernel
set_option maxRecDepth 20000 in
theorem ggX6_allWords_X6_wordsOf : GoodIn wsX6_allWords wsX6_wordsOf := goodIn_r _ [6] (by decide +kernel) (by decide +kernel)
set_option maxRecDepth 20000 in
theorem gX6_allWords_X6_wordsOf : GoodIn wsX6_allWords (va_wsS RX6 89 yX6_wordsOf wsX6_wordsOf) := goodIn_app (goodIn_of _ (by decide +kernel)) ggX6_allWords_X6_wordsOf
theorem dX6_allWords_0 : decode cX6_allWords 0 = .ok (.iconst 0, 1) := by decide +kernel
theorem dX6_allWords_1 : decode cX6_allWords 1 = .ok (.istore_n 1, 1) := by decide +kernel
theorem dX6_allWords_2 : decode cX6_allWords 2 = .ok (.iconst 0, 1) := by decide +kernel
theorem dX6_allWords_3 : decode cX6_allWords 3 = .ok (.istore_n 2, 1) := by decide +kernel
theorem dX6_allWords_4 : decode cX6_allWords 4 = .ok (.iload_n 2, 1) := by decide +kernel
theorem dX6_allWords_5 : decode cX6_allWords 5 = .ok (.aload_n 0, 1) := by decide +kernel
theorem dX6_allWords_6 : decode cX6_allWords 6 = .ok (.getfield 79, 3) := by decide +kernel
theorem dX6_allWords_9 : decode cX6_allWords 9 = .ok (.if_icmp .ge 21, 3) := by decide +kernel
theorem dX6_allWords_12 : decode cX6_allWords 12 = .ok (.iload_n 1, 1) := by decide +kernel
theorem dX6_allWords_13 : decode cX6_allWords 13 = .ok (.aload_n 0, 1) := by decide +kernel
theorem dX6_allWords_14 : decode cX6_allWords 14 = .ok (.getfield 25, 3) := by decide +kernel
theorem dX6_allWords_17 : decode cX6_allWords 17 = .ok (.iload_n 2, 1) := by decide +kernel
theorem dX6_allWords_18 : decode cX6_allWords 18 = .ok (.iaload, 1) := by decide +kernel
theorem dX6_allWords_19 : decode cX6_allWords 19 = .ok (.invokestatic 89, 3) := by decide +kernel
theorem dX6_allWords_22 : decode cX6_allWords 22 = .ok (.iadd, 1) := by decide +kernel
theorem dX6_allWords_23 : decode cX6_allWords 23 = .ok (.istore_n 1, 1) := by decide +kernel
theorem dX6_allWords_24 : decode cX6_allWords 24 = .ok (.iinc 2 1, 3) := by decide +kernel
theorem dX6_allWords_27 : decode cX6_allWords 27 = .ok (.goto (-23), 3) := by decide +kernel
theorem dX6_allWords_30 : decode cX6_allWords 30 = .ok (.iload_n 1, 1) := by decide +kernel
theorem dX6_allWords_31 : decode cX6_allWords 31 = .ok (.ireturn, 1) := by decide +kernel
set_option maxRecDepth 20000 in
theorem ggX6_days_X6_in : GoodIn wsX6_days wsX6_in := goodIn_r _ [10] (by decide +kernel) (by decide +kernel)
set_option maxRecDepth 20000 in
theorem gX6_days_X6_in : GoodIn wsX6_days (va_wsS RX6 52 yX6_in wsX6_in) := goodIn_app (goodIn_of _ (by decide +kernel)) ggX6_days_X6_in
set_option maxRecDepth 20000 in
theorem ggX6_days_X6_withWord : GoodIn wsX6_days wsX6_withWord := goodIn_r _ [13] (by decide +kernel) (by decide +kernel)
set_option maxRecDepth 20000 in
theorem gX6_days_X6_withWord : GoodIn wsX6_days (va_wsS RX6 99 yX6_withWord wsX6_withWord) := goodIn_app (goodIn_of _ (by decide +kernel)) ggX6_days_X6_withWord
set_option maxRecDepth 20000 in
theorem ggX6_days_X6_layPages : GoodIn wsX6_days wsX6_layPages := goodIn_r _ [17, 18, 19, 20, 21, 22, 23, 24, 9, 25, 26, 27, 28, 29, 30, 31, 32, 33, 34, 11, 12, 13, 39, 40, 41, 42, 43, 44, 45, 46, 47, 48, 49, 50, 51, 52, 53, 54, 55, 56, 57] (by decide +kernel) (by decide +kernel)
set_option maxRecDepth 20000 in
theorem gX6_days_X6_layPages : GoodIn wsX6_days (wsV RX6 109 RX6 yX6_layPages wsX6_layPages) := goodIn_app (goodIn_of _ (by decide +kernel)) ggX6_days_X6_layPages
set_option maxRecDepth 20000 in
theorem ggX6_days_X6_allWords : GoodIn wsX6_days wsX6_allWords := goodIn_r _ [38, 18, 20, 26, 27, 9, 28, 39, 40, 41, 42, 43, 44, 45, 46, 47, 48, 49, 50, 51, 52, 53, 54, 55, 56, 57] (by decide +kernel) (by decide +kernel)
set_option maxRecDepth 20000 in
theorem gX6_days_X6_allWords : GoodIn wsX6_days (wsV RX6 198 RX6 yX6_allWords wsX6_allWords) := goodIn_app (goodIn_of _ (by decide +kernel)) ggX6_days_X6_allWords
theorem dX6_days_0 : decode cX6_days 0 = .ok (.iload_n 1, 1) := by decide +kernel
theorem dX6_days_1 : decode cX6_days 1 = .ok (.i2l, 1) := by decide +kernel
theorem dX6_days_2 : decode cX6_days 2 = .ok (.lconst 1, 1) := by decide +kernel
theorem dX6_days_3 : decode cX6_days 3 = .ok (.ldc2_w 188, 3) := by decide +kernel
theorem dX6_days_6 : decode cX6_days 6 = .ok (.invokestatic 52, 3) := by decide +kernel
theorem dX6_days_9 : decode cX6_days 9 = .ok (.ifCond .eq 15, 3) := by decide +kernel
theorem dX6_days_12 : decode cX6_days 12 = .ok (.iload_n 2, 1) := by decide +kernel
theorem dX6_days_13 : decode cX6_days 13 = .ok (.i2l, 1) := by decide +kernel
theorem dX6_days_14 : decode cX6_days 14 = .ok (.lconst 1, 1) := by decide +kernel
theorem dX6_days_15 : decode cX6_days 15 = .ok (.ldc2_w 190, 3) := by decide +kernel
theorem dX6_days_18 : decode cX6_days 18 = .ok (.invokestatic 52, 3) := by decide +kernel
theorem dX6_days_21 : decode cX6_days 21 = .ok (.ifCond .ne 6, 3) := by decide +kernel
theorem dX6_days_24 : decode cX6_days 24 = .ok (.bipush (-2), 2) := by decide +kernel
theorem dX6_days_26 : decode cX6_days 26 = .ok (.ireturn, 1) := by decide +kernel
theorem dX6_days_27 : decode cX6_days 27 = .ok (.iconst 0, 1) := by decide +kernel
theorem dX6_days_28 : decode cX6_days 28 = .ok (.istore_n 3, 1) := by decide +kernel
theorem dX6_days_29 : decode cX6_days 29 = .ok (.iconst 0, 1) := by decide +kernel
theorem dX6_days_30 : decode cX6_days 30 = .ok (.istore 4, 2) := by decide +kernel
theorem dX6_days_32 : decode cX6_days 32 = .ok (.iload 4, 2) := by decide +kernel
theorem dX6_days_34 : decode cX6_days 34 = .ok (.iload_n 1, 1) := by decide +kernel
theorem dX6_days_35 : decode cX6_days 35 = .ok (.if_icmp .ge 77, 3) := by decide +kernel
theorem dX6_days_38 : decode cX6_days 38 = .ok (.iconst 0, 1) := by decide +kernel
theorem dX6_days_39 : decode cX6_days 39 = .ok (.istore 5, 2) := by decide +kernel
theorem dX6_days_41 : decode cX6_days 41 = .ok (.iconst 0, 1) := by decide +kernel
theorem dX6_days_42 : decode cX6_days 42 = .ok (.istore 6, 2) := by decide +kernel
theorem dX6_days_44 : decode cX6_days 44 = .ok (.iload 6, 2) := by decide +kernel
theorem dX6_days_46 : decode cX6_days 46 = .ok (.iload_n 2, 1) := by decide +kernel
theorem dX6_days_47 : decode cX6_days 47 = .ok (.if_icmp .ge 44, 3) := by decide +kernel
theorem dX6_days_50 : decode cX6_days 50 = .ok (.aload_n 0, 1) := by decide +kernel
theorem dX6_days_51 : decode cX6_days 51 = .ok (.aload_n 0, 1) := by decide +kernel
theorem dX6_days_52 : decode cX6_days 52 = .ok (.getfield 184, 3) := by decide +kernel
theorem dX6_days_55 : decode cX6_days 55 = .ok (.ldc2_w 192, 3) := by decide +kernel
theorem dX6_days_58 : decode cX6_days 58 = .ok (.lmul, 1) := by decide +kernel
theorem dX6_days_59 : decode cX6_days 59 = .ok (.ldc2_w 194, 3) := by decide +kernel
theorem dX6_days_62 : decode cX6_days 62 = .ok (.ladd, 1) := by decide +kernel
theorem dX6_days_63 : decode cX6_days 63 = .ok (.putfield 184, 3) := by decide +kernel
theorem dX6_days_66 : decode cX6_days 66 = .ok (.iload 5, 2) := by decide +kernel
theorem dX6_days_68 : decode cX6_days 68 = .ok (.aload_n 0, 1) := by decide +kernel
theorem dX6_days_69 : decode cX6_days 69 = .ok (.getfield 184, 3) := by decide +kernel
theorem dX6_days_72 : decode cX6_days 72 = .ok (.bipush 33, 2) := by decide +kernel
theorem dX6_days_74 : decode cX6_days 74 = .ok (.lushr, 1) := by decide +kernel
theorem dX6_days_75 : decode cX6_days 75 = .ok (.ldc2_w 196, 3) := by decide +kernel
theorem dX6_days_78 : decode cX6_days 78 = .ok (.lrem, 1) := by decide +kernel
theorem dX6_days_79 : decode cX6_days 79 = .ok (.l2i, 1) := by decide +kernel
theorem dX6_days_80 : decode cX6_days 80 = .ok (.invokestatic 99, 3) := by decide +kernel
theorem dX6_days_83 : decode cX6_days 83 = .ok (.istore 5, 2) := by decide +kernel
theorem dX6_days_85 : decode cX6_days 85 = .ok (.iinc 6 1, 3) := by decide +kernel
theorem dX6_days_88 : decode cX6_days 88 = .ok (.goto (-44), 3) := by decide +kernel
theorem dX6_days_91 : decode cX6_days 91 = .ok (.aload_n 0, 1) := by decide +kernel
theorem dX6_days_92 : decode cX6_days 92 = .ok (.iload 5, 2) := by decide +kernel
theorem dX6_days_94 : decode cX6_days 94 = .ok (.bipush (-9), 2) := by decide +kernel
theorem dX6_days_96 : decode cX6_days 96 = .ok (.invokevirtual 109, 3) := by decide +kernel
theorem dX6_days_99 : decode cX6_days 99 = .ok (.iload_n 3, 1) := by decide +kernel
theorem dX6_days_100 : decode cX6_days 100 = .ok (.aload_n 0, 1) := by decide +kernel
theorem dX6_days_101 : decode cX6_days 101 = .ok (.invokevirtual 198, 3) := by decide +kernel
theorem dX6_days_104 : decode cX6_days 104 = .ok (.iadd, 1) := by decide +kernel
theorem dX6_days_105 : decode cX6_days 105 = .ok (.istore_n 3, 1) := by decide +kernel
theorem dX6_days_106 : decode cX6_days 106 = .ok (.iinc 4 1, 3) := by decide +kernel
theorem dX6_days_109 : decode cX6_days 109 = .ok (.goto (-77), 3) := by decide +kernel
theorem dX6_days_112 : decode cX6_days 112 = .ok (.iload_n 3, 1) := by decide +kernel
theorem dX6_days_113 : decode cX6_days 113 = .ok (.ireturn, 1) := by decide +kernel
set_option maxRecDepth 20000 in
theorem ggX6_keep_X6_in : GoodIn wsX6_keep wsX6_in := goodIn_r _ [7] (by decide +kernel) (by decide +kernel)
set_option maxRecDepth 20000 in
theorem gX6_keep_X6_in : GoodIn wsX6_keep (va_wsS RX6 52 yX6_in wsX6_in) := goodIn_app (goodIn_of _ (by decide +kernel)) ggX6_keep_X6_in
set_option maxRecDepth 20000 in
theorem ggX6_keep_X6_wordsOf : GoodIn wsX6_keep wsX6_wordsOf := goodIn_r _ [10] (by decide +kernel) (by decide +kernel)
set_option maxRecDepth 20000 in
theorem gX6_keep_X6_wordsOf : GoodIn wsX6_keep (va_wsS RX6 89 yX6_wordsOf wsX6_wordsOf) := goodIn_app (goodIn_of _ (by decide +kernel)) ggX6_keep_X6_wordsOf
theorem dX6_keep_0 : decode cX6_keep 0 = .ok (.iload_n 1, 1) := by decide +kernel
theorem dX6_keep_1 : decode cX6_keep 1 = .ok (.i2l, 1) := by decide +kernel
theorem dX6_keep_2 : decode cX6_keep 2 = .ok (.lconst 0, 1) := by decide +kernel
theorem dX6_keep_3 : decode cX6_keep 3 = .ok (.lconst 1, 1) := by decide +kernel
theorem dX6_keep_4 : decode cX6_keep 4 = .ok (.invokestatic 52, 3) := by decide +kernel
theorem dX6_keep_7 : decode cX6_keep 7 = .ok (.ifCond .ne 5, 3) := by decide +kernel
theorem dX6_keep_10 : decode cX6_keep 10 = .ok (.iconst (-1), 1) := by decide +kernel
theorem dX6_keep_11 : decode cX6_keep 11 = .ok (.ireturn, 1) := by decide +kernel
theorem dX6_keep_12 : decode cX6_keep 12 = .ok (.aload_n 0, 1) := by decide +kernel
theorem dX6_keep_13 : decode cX6_keep 13 = .ok (.getfield 43, 3) := by decide +kernel
theorem dX6_keep_16 : decode cX6_keep 16 = .ok (.iload_n 1, 1) := by decide +kernel
theorem dX6_keep_17 : decode cX6_keep 17 = .ok (.iconst 1, 1) := by decide +kernel
theorem dX6_keep_18 : decode cX6_keep 18 = .ok (.bastore, 1) := by decide +kernel
theorem dX6_keep_19 : decode cX6_keep 19 = .ok (.iconst 0, 1) := by decide +kernel
theorem dX6_keep_20 : decode cX6_keep 20 = .ok (.istore_n 2, 1) := by decide +kernel
theorem dX6_keep_21 : decode cX6_keep 21 = .ok (.iload_n 2, 1) := by decide +kernel
theorem dX6_keep_22 : decode cX6_keep 22 = .ok (.bipush 13, 2) := by decide +kernel
theorem dX6_keep_24 : decode cX6_keep 24 = .ok (.if_icmp .ge 26, 3) := by decide +kernel
theorem dX6_keep_27 : decode cX6_keep 27 = .ok (.aload_n 0, 1) := by decide +kernel
theorem dX6_keep_28 : decode cX6_keep 28 = .ok (.getfield 47, 3) := by decide +kernel
theorem dX6_keep_31 : decode cX6_keep 31 = .ok (.bipush 13, 2) := by decide +kernel
theorem dX6_keep_33 : decode cX6_keep 33 = .ok (.iload_n 1, 1) := by decide +kernel
theorem dX6_keep_34 : decode cX6_keep 34 = .ok (.imul, 1) := by decide +kernel
theorem dX6_keep_35 : decode cX6_keep 35 = .ok (.iload_n 2, 1) := by decide +kernel
theorem dX6_keep_36 : decode cX6_keep 36 = .ok (.iadd, 1) := by decide +kernel
theorem dX6_keep_37 : decode cX6_keep 37 = .ok (.aload_n 0, 1) := by decide +kernel
theorem dX6_keep_38 : decode cX6_keep 38 = .ok (.getfield 16, 3) := by decide +kernel
theorem dX6_keep_41 : decode cX6_keep 41 = .ok (.iload_n 2, 1) := by decide +kernel
theorem dX6_keep_42 : decode cX6_keep 42 = .ok (.iaload, 1) := by decide +kernel
theorem dX6_keep_43 : decode cX6_keep 43 = .ok (.iastore, 1) := by decide +kernel
theorem dX6_keep_44 : decode cX6_keep 44 = .ok (.iinc 2 1, 3) := by decide +kernel
theorem dX6_keep_47 : decode cX6_keep 47 = .ok (.goto (-26), 3) := by decide +kernel
theorem dX6_keep_50 : decode cX6_keep 50 = .ok (.aload_n 0, 1) := by decide +kernel
theorem dX6_keep_51 : decode cX6_keep 51 = .ok (.getfield 16, 3) := by decide +kernel
theorem dX6_keep_54 : decode cX6_keep 54 = .ok (.iconst 0, 1) := by decide +kernel
theorem dX6_keep_55 : decode cX6_keep 55 = .ok (.iaload, 1) := by decide +kernel
theorem dX6_keep_56 : decode cX6_keep 56 = .ok (.invokestatic 89, 3) := by decide +kernel
theorem dX6_keep_59 : decode cX6_keep 59 = .ok (.ireturn, 1) := by decide +kernel
set_option maxRecDepth 20000 in
theorem ggX6_again_X6_in : GoodIn wsX6_again wsX6_in := goodIn_r _ [8] (by decide +kernel) (by decide +kernel)
set_option maxRecDepth 20000 in
theorem gX6_again_X6_in : GoodIn wsX6_again (va_wsS RX6 52 yX6_in wsX6_in) := goodIn_app (goodIn_of _ (by decide +kernel)) ggX6_again_X6_in
set_option maxRecDepth 20000 in
theorem ggX6_again_X6_wordsOf : GoodIn wsX6_again wsX6_wordsOf := goodIn_r _ [11] (by decide +kernel) (by decide +kernel)
set_option maxRecDepth 20000 in
theorem gX6_again_X6_wordsOf : GoodIn wsX6_again (va_wsS RX6 89 yX6_wordsOf wsX6_wordsOf) := goodIn_app (goodIn_of _ (by decide +kernel)) ggX6_again_X6_wordsOf
theorem dX6_again_0 : decode cX6_again 0 = .ok (.iload_n 1, 1) := by decide +kernel
theorem dX6_again_1 : decode cX6_again 1 = .ok (.i2l, 1) := by decide +kernel
theorem dX6_again_2 : decode cX6_again 2 = .ok (.lconst 0, 1) := by decide +kernel
theorem dX6_again_3 : decode cX6_again 3 = .ok (.lconst 1, 1) := by decide +kernel
theorem dX6_again_4 : decode cX6_again 4 = .ok (.invokestatic 52, 3) := by decide +kernel
theorem dX6_again_7 : decode cX6_again 7 = .ok (.ifCond .ne 5, 3) := by decide +kernel
theorem dX6_again_10 : decode cX6_again 10 = .ok (.iconst (-1), 1) := by decide +kernel
theorem dX6_again_11 : decode cX6_again 11 = .ok (.ireturn, 1) := by decide +kernel
theorem dX6_again_12 : decode cX6_again 12 = .ok (.aload_n 0, 1) := by decide +kernel
theorem dX6_again_13 : decode cX6_again 13 = .ok (.getfield 43, 3) := by decide +kernel
theorem dX6_again_16 : decode cX6_again 16 = .ok (.iload_n 1, 1) := by decide +kernel
theorem dX6_again_17 : decode cX6_again 17 = .ok (.baload, 1) := by decide +kernel
theorem dX6_again_18 : decode cX6_again 18 = .ok (.ifCond .ne 6, 3) := by decide +kernel
theorem dX6_again_21 : decode cX6_again 21 = .ok (.bipush (-3), 2) := by decide +kernel
theorem dX6_again_23 : decode cX6_again 23 = .ok (.ireturn, 1) := by decide +kernel
theorem dX6_again_24 : decode cX6_again 24 = .ok (.iconst 0, 1) := by decide +kernel
theorem dX6_again_25 : decode cX6_again 25 = .ok (.istore_n 2, 1) := by decide +kernel
theorem dX6_again_26 : decode cX6_again 26 = .ok (.iload_n 2, 1) := by decide +kernel
theorem dX6_again_27 : decode cX6_again 27 = .ok (.bipush 13, 2) := by decide +kernel
theorem dX6_again_29 : decode cX6_again 29 = .ok (.if_icmp .ge 26, 3) := by decide +kernel
theorem dX6_again_32 : decode cX6_again 32 = .ok (.aload_n 0, 1) := by decide +kernel
theorem dX6_again_33 : decode cX6_again 33 = .ok (.getfield 16, 3) := by decide +kernel
theorem dX6_again_36 : decode cX6_again 36 = .ok (.iload_n 2, 1) := by decide +kernel
theorem dX6_again_37 : decode cX6_again 37 = .ok (.aload_n 0, 1) := by decide +kernel
theorem dX6_again_38 : decode cX6_again 38 = .ok (.getfield 47, 3) := by decide +kernel
theorem dX6_again_41 : decode cX6_again 41 = .ok (.bipush 13, 2) := by decide +kernel
theorem dX6_again_43 : decode cX6_again 43 = .ok (.iload_n 1, 1) := by decide +kernel
theorem dX6_again_44 : decode cX6_again 44 = .ok (.imul, 1) := by decide +kernel
theorem dX6_again_45 : decode cX6_again 45 = .ok (.iload_n 2, 1) := by decide +kernel
theorem dX6_again_46 : decode cX6_again 46 = .ok (.iadd, 1) := by decide +kernel
theorem dX6_again_47 : decode cX6_again 47 = .ok (.iaload, 1) := by decide +kernel
theorem dX6_again_48 : decode cX6_again 48 = .ok (.iastore, 1) := by decide +kernel
theorem dX6_again_49 : decode cX6_again 49 = .ok (.iinc 2 1, 3) := by decide +kernel
theorem dX6_again_52 : decode cX6_again 52 = .ok (.goto (-26), 3) := by decide +kernel
theorem dX6_again_55 : decode cX6_again 55 = .ok (.aload_n 0, 1) := by decide +kernel
theorem dX6_again_56 : decode cX6_again 56 = .ok (.iconst 0, 1) := by decide +kernel
theorem dX6_again_57 : decode cX6_again 57 = .ok (.putfield 86, 3) := by decide +kernel
theorem dX6_again_60 : decode cX6_again 60 = .ok (.aload_n 0, 1) := by decide +kernel
theorem dX6_again_61 : decode cX6_again 61 = .ok (.getfield 16, 3) := by decide +kernel
theorem dX6_again_64 : decode cX6_again 64 = .ok (.iconst 0, 1) := by decide +kernel
theorem dX6_again_65 : decode cX6_again 65 = .ok (.iaload, 1) := by decide +kernel
theorem dX6_again_66 : decode cX6_again 66 = .ok (.invokestatic 89, 3) := by decide +kernel
theorem dX6_again_69 : decode cX6_again 69 = .ok (.ireturn, 1) := by decide +kernel
set_option maxRecDepth 20000 in
theorem ggX6_count_X6_layPages : GoodIn wsX6_count wsX6_layPages := goodIn_r _ [10, 1, 3, 11, 12, 13, 14, 15, 9, 16, 17, 18, 19, 20, 21, 22, 23, 24, 25, 26, 27, 28, 33, 34, 35, 36, 37, 38, 39, 40, 41, 42, 43, 44, 45, 46, 47, 48, 49, 50, 51] (by decide +kernel) (by decide +kernel)
set_option maxRecDepth 20000 in
theorem gX6_count_X6_layPages : GoodIn wsX6_count (wsV RX6 109 RX6 yX6_layPages wsX6_layPages) := goodIn_app (goodIn_of _ (by decide +kernel)) ggX6_count_X6_layPages
set_option maxRecDepth 20000 in
theorem ggX6_count_X6_wordsOf : GoodIn wsX6_count wsX6_wordsOf := goodIn_r _ [19] (by decide +kernel) (by decide +kernel)
set_option maxRecDepth 20000 in
theorem gX6_count_X6_wordsOf : GoodIn wsX6_count (va_wsS RX6 89 yX6_wordsOf wsX6_wordsOf) := goodIn_app (goodIn_of _ (by decide +kernel)) ggX6_count_X6_wordsOf
set_option maxRecDepth 20000 in
theorem ggX6_count_X6_allWords : GoodIn wsX6_count wsX6_allWords := goodIn_r _ [32, 1, 11, 17, 18, 9, 19, 33, 34, 35, 36, 37, 38, 39, 40, 41, 42, 43, 44, 45, 46, 47, 48, 49, 50, 51] (by decide +kernel) (by decide +kernel)
set_option maxRecDepth 20000 in
theorem gX6_count_X6_allWords : GoodIn wsX6_count (wsV RX6 198 RX6 yX6_allWords wsX6_allWords) := goodIn_app (goodIn_of _ (by decide +kernel)) ggX6_count_X6_allWords
theorem dX6_count_0 : decode cX6_count 0 = .ok (.iconst 0, 1) := by decide +kernel
theorem dX6_count_1 : decode cX6_count 1 = .ok (.istore_n 2, 1) := by decide +kernel
theorem dX6_count_2 : decode cX6_count 2 = .ok (.iconst 0, 1) := by decide +kernel
theorem dX6_count_3 : decode cX6_count 3 = .ok (.istore_n 3, 1) := by decide +kernel
theorem dX6_count_4 : decode cX6_count 4 = .ok (.iload_n 3, 1) := by decide +kernel
theorem dX6_count_5 : decode cX6_count 5 = .ok (.aload_n 0, 1) := by decide +kernel
theorem dX6_count_6 : decode cX6_count 6 = .ok (.getfield 79, 3) := by decide +kernel
theorem dX6_count_9 : decode cX6_count 9 = .ok (.if_icmp .ge 30, 3) := by decide +kernel
theorem dX6_count_12 : decode cX6_count 12 = .ok (.iload_n 2, 1) := by decide +kernel
theorem dX6_count_13 : decode cX6_count 13 = .ok (.aload_n 0, 1) := by decide +kernel
theorem dX6_count_14 : decode cX6_count 14 = .ok (.getfield 19, 3) := by decide +kernel
theorem dX6_count_17 : decode cX6_count 17 = .ok (.iload_n 3, 1) := by decide +kernel
theorem dX6_count_18 : decode cX6_count 18 = .ok (.iaload, 1) := by decide +kernel
theorem dX6_count_19 : decode cX6_count 19 = .ok (.bipush (-9), 2) := by decide +kernel
theorem dX6_count_21 : decode cX6_count 21 = .ok (.if_icmp .eq 9, 3) := by decide +kernel
theorem dX6_count_24 : decode cX6_count 24 = .ok (.iconst 1, 1) := by decide +kernel
theorem dX6_count_25 : decode cX6_count 25 = .ok (.iload_n 3, 1) := by decide +kernel
theorem dX6_count_26 : decode cX6_count 26 = .ok (.ishl, 1) := by decide +kernel
theorem dX6_count_27 : decode cX6_count 27 = .ok (.goto 4, 3) := by decide +kernel
theorem dX6_count_30 : decode cX6_count 30 = .ok (.iconst 0, 1) := by decide +kernel
theorem dX6_count_31 : decode cX6_count 31 = .ok (.ior, 1) := by decide +kernel
theorem dX6_count_32 : decode cX6_count 32 = .ok (.istore_n 2, 1) := by decide +kernel
theorem dX6_count_33 : decode cX6_count 33 = .ok (.iinc 3 1, 3) := by decide +kernel
theorem dX6_count_36 : decode cX6_count 36 = .ok (.goto (-32), 3) := by decide +kernel
theorem dX6_count_39 : decode cX6_count 39 = .ok (.aload_n 0, 1) := by decide +kernel
theorem dX6_count_40 : decode cX6_count 40 = .ok (.aload_n 0, 1) := by decide +kernel
theorem dX6_count_41 : decode cX6_count 41 = .ok (.getfield 16, 3) := by decide +kernel
theorem dX6_count_44 : decode cX6_count 44 = .ok (.iconst 0, 1) := by decide +kernel
theorem dX6_count_45 : decode cX6_count 45 = .ok (.iaload, 1) := by decide +kernel
theorem dX6_count_46 : decode cX6_count 46 = .ok (.bipush (-9), 2) := by decide +kernel
theorem dX6_count_48 : decode cX6_count 48 = .ok (.invokevirtual 109, 3) := by decide +kernel
theorem dX6_count_51 : decode cX6_count 51 = .ok (.iload_n 1, 1) := by decide +kernel
theorem dX6_count_52 : decode cX6_count 52 = .ok (.tableswitch 72 0 5 #[40, 45, 50, 60, 65, 67], 40) := by decide +kernel
theorem dX6_count_92 : decode cX6_count 92 = .ok (.aload_n 0, 1) := by decide +kernel
theorem dX6_count_93 : decode cX6_count 93 = .ok (.getfield 56, 3) := by decide +kernel
theorem dX6_count_96 : decode cX6_count 96 = .ok (.ireturn, 1) := by decide +kernel
theorem dX6_count_97 : decode cX6_count 97 = .ok (.aload_n 0, 1) := by decide +kernel
theorem dX6_count_98 : decode cX6_count 98 = .ok (.getfield 79, 3) := by decide +kernel
theorem dX6_count_101 : decode cX6_count 101 = .ok (.ireturn, 1) := by decide +kernel
theorem dX6_count_102 : decode cX6_count 102 = .ok (.aload_n 0, 1) := by decide +kernel
theorem dX6_count_103 : decode cX6_count 103 = .ok (.getfield 16, 3) := by decide +kernel
theorem dX6_count_106 : decode cX6_count 106 = .ok (.iconst 0, 1) := by decide +kernel
theorem dX6_count_107 : decode cX6_count 107 = .ok (.iaload, 1) := by decide +kernel
theorem dX6_count_108 : decode cX6_count 108 = .ok (.invokestatic 89, 3) := by decide +kernel
theorem dX6_count_111 : decode cX6_count 111 = .ok (.ireturn, 1) := by decide +kernel
theorem dX6_count_112 : decode cX6_count 112 = .ok (.aload_n 0, 1) := by decide +kernel
theorem dX6_count_113 : decode cX6_count 113 = .ok (.getfield 86, 3) := by decide +kernel
theorem dX6_count_116 : decode cX6_count 116 = .ok (.ireturn, 1) := by decide +kernel
theorem dX6_count_117 : decode cX6_count 117 = .ok (.iload_n 2, 1) := by decide +kernel
theorem dX6_count_118 : decode cX6_count 118 = .ok (.ireturn, 1) := by decide +kernel
theorem dX6_count_119 : decode cX6_count 119 = .ok (.aload_n 0, 1) := by decide +kernel
theorem dX6_count_120 : decode cX6_count 120 = .ok (.invokevirtual 198, 3) := by decide +kernel
theorem dX6_count_123 : decode cX6_count 123 = .ok (.ireturn, 1) := by decide +kernel
theorem dX6_count_124 : decode cX6_count 124 = .ok (.bipush (-2), 2) := by decide +kernel
theorem dX6_count_126 : decode cX6_count 126 = .ok (.ireturn, 1) := by decide +kernel
theorem dJ6_bitCount_0f7a4_0 : decode cJ6_bitCount_0f7a4 0 = .ok (.iload_n 0, 1) := by decide +kernel
theorem dJ6_bitCount_0f7a4_1 : decode cJ6_bitCount_0f7a4 1 = .ok (.iload_n 0, 1) := by decide +kernel
theorem dJ6_bitCount_0f7a4_2 : decode cJ6_bitCount_0f7a4 2 = .ok (.iconst 1, 1) := by decide +kernel
theorem dJ6_bitCount_0f7a4_3 : decode cJ6_bitCount_0f7a4 3 = .ok (.iushr, 1) := by decide +kernel
theorem dJ6_bitCount_0f7a4_4 : decode cJ6_bitCount_0f7a4 4 = .ok (.ldc_w 265, 3) := by decide +kernel
theorem dJ6_bitCount_0f7a4_7 : decode cJ6_bitCount_0f7a4 7 = .ok (.iand, 1) := by decide +kernel
theorem dJ6_bitCount_0f7a4_8 : decode cJ6_bitCount_0f7a4 8 = .ok (.isub, 1) := by decide +kernel
theorem dJ6_bitCount_0f7a4_9 : decode cJ6_bitCount_0f7a4 9 = .ok (.istore_n 0, 1) := by decide +kernel
theorem dJ6_bitCount_0f7a4_10 : decode cJ6_bitCount_0f7a4 10 = .ok (.iload_n 0, 1) := by decide +kernel
theorem dJ6_bitCount_0f7a4_11 : decode cJ6_bitCount_0f7a4 11 = .ok (.ldc_w 266, 3) := by decide +kernel
theorem dJ6_bitCount_0f7a4_14 : decode cJ6_bitCount_0f7a4 14 = .ok (.iand, 1) := by decide +kernel
theorem dJ6_bitCount_0f7a4_15 : decode cJ6_bitCount_0f7a4 15 = .ok (.iload_n 0, 1) := by decide +kernel
theorem dJ6_bitCount_0f7a4_16 : decode cJ6_bitCount_0f7a4 16 = .ok (.iconst 2, 1) := by decide +kernel
theorem dJ6_bitCount_0f7a4_17 : decode cJ6_bitCount_0f7a4 17 = .ok (.iushr, 1) := by decide +kernel
theorem dJ6_bitCount_0f7a4_18 : decode cJ6_bitCount_0f7a4 18 = .ok (.ldc_w 266, 3) := by decide +kernel
theorem dJ6_bitCount_0f7a4_21 : decode cJ6_bitCount_0f7a4 21 = .ok (.iand, 1) := by decide +kernel
theorem dJ6_bitCount_0f7a4_22 : decode cJ6_bitCount_0f7a4 22 = .ok (.iadd, 1) := by decide +kernel
theorem dJ6_bitCount_0f7a4_23 : decode cJ6_bitCount_0f7a4 23 = .ok (.istore_n 0, 1) := by decide +kernel
theorem dJ6_bitCount_0f7a4_24 : decode cJ6_bitCount_0f7a4 24 = .ok (.iload_n 0, 1) := by decide +kernel
theorem dJ6_bitCount_0f7a4_25 : decode cJ6_bitCount_0f7a4 25 = .ok (.iload_n 0, 1) := by decide +kernel
theorem dJ6_bitCount_0f7a4_26 : decode cJ6_bitCount_0f7a4 26 = .ok (.iconst 4, 1) := by decide +kernel
theorem dJ6_bitCount_0f7a4_27 : decode cJ6_bitCount_0f7a4 27 = .ok (.iushr, 1) := by decide +kernel
theorem dJ6_bitCount_0f7a4_28 : decode cJ6_bitCount_0f7a4 28 = .ok (.iadd, 1) := by decide +kernel
theorem dJ6_bitCount_0f7a4_29 : decode cJ6_bitCount_0f7a4 29 = .ok (.ldc_w 267, 3) := by decide +kernel
theorem dJ6_bitCount_0f7a4_32 : decode cJ6_bitCount_0f7a4 32 = .ok (.iand, 1) := by decide +kernel
theorem dJ6_bitCount_0f7a4_33 : decode cJ6_bitCount_0f7a4 33 = .ok (.istore_n 0, 1) := by decide +kernel
theorem dJ6_bitCount_0f7a4_34 : decode cJ6_bitCount_0f7a4 34 = .ok (.iload_n 0, 1) := by decide +kernel
theorem dJ6_bitCount_0f7a4_35 : decode cJ6_bitCount_0f7a4 35 = .ok (.iload_n 0, 1) := by decide +kernel
theorem dJ6_bitCount_0f7a4_36 : decode cJ6_bitCount_0f7a4 36 = .ok (.bipush 8, 2) := by decide +kernel
theorem dJ6_bitCount_0f7a4_38 : decode cJ6_bitCount_0f7a4 38 = .ok (.iushr, 1) := by decide +kernel
theorem dJ6_bitCount_0f7a4_39 : decode cJ6_bitCount_0f7a4 39 = .ok (.iadd, 1) := by decide +kernel
theorem dJ6_bitCount_0f7a4_40 : decode cJ6_bitCount_0f7a4 40 = .ok (.istore_n 0, 1) := by decide +kernel
theorem dJ6_bitCount_0f7a4_41 : decode cJ6_bitCount_0f7a4 41 = .ok (.iload_n 0, 1) := by decide +kernel
theorem dJ6_bitCount_0f7a4_42 : decode cJ6_bitCount_0f7a4 42 = .ok (.iload_n 0, 1) := by decide +kernel
theorem dJ6_bitCount_0f7a4_43 : decode cJ6_bitCount_0f7a4 43 = .ok (.bipush 16, 2) := by decide +kernel
theorem dJ6_bitCount_0f7a4_45 : decode cJ6_bitCount_0f7a4 45 = .ok (.iushr, 1) := by decide +kernel
theorem dJ6_bitCount_0f7a4_46 : decode cJ6_bitCount_0f7a4 46 = .ok (.iadd, 1) := by decide +kernel
theorem dJ6_bitCount_0f7a4_47 : decode cJ6_bitCount_0f7a4 47 = .ok (.istore_n 0, 1) := by decide +kernel
theorem dJ6_bitCount_0f7a4_48 : decode cJ6_bitCount_0f7a4 48 = .ok (.iload_n 0, 1) := by decide +kernel
theorem dJ6_bitCount_0f7a4_49 : decode cJ6_bitCount_0f7a4 49 = .ok (.bipush 63, 2) := by decide +kernel
theorem dJ6_bitCount_0f7a4_51 : decode cJ6_bitCount_0f7a4 51 = .ok (.iand, 1) := by decide +kernel
theorem dJ6_bitCount_0f7a4_52 : decode cJ6_bitCount_0f7a4 52 = .ok (.ireturn, 1) := by decide +kernel
theorem dJ9_max_7cf53_0 : decode cJ9_max_7cf53 0 = .ok (.iload_n 0, 1) := by decide +kernel
theorem dJ9_max_7cf53_1 : decode cJ9_max_7cf53 1 = .ok (.iload_n 1, 1) := by decide +kernel
theorem dJ9_max_7cf53_2 : decode cJ9_max_7cf53 2 = .ok (.if_icmp .lt 7, 3) := by decide +kernel
theorem dJ9_max_7cf53_5 : decode cJ9_max_7cf53 5 = .ok (.iload_n 0, 1) := by decide +kernel
theorem dJ9_max_7cf53_6 : decode cJ9_max_7cf53 6 = .ok (.goto 4, 3) := by decide +kernel
theorem dJ9_max_7cf53_9 : decode cJ9_max_7cf53 9 = .ok (.iload_n 1, 1) := by decide +kernel
theorem dJ9_max_7cf53_10 : decode cJ9_max_7cf53 10 = .ok (.ireturn, 1) := by decide +kernel
theorem dJ9_min_7cf53_0 : decode cJ9_min_7cf53 0 = .ok (.iload_n 0, 1) := by decide +kernel
theorem dJ9_min_7cf53_1 : decode cJ9_min_7cf53 1 = .ok (.iload_n 1, 1) := by decide +kernel
theorem dJ9_min_7cf53_2 : decode cJ9_min_7cf53 2 = .ok (.if_icmp .gt 7, 3) := by decide +kernel
theorem dJ9_min_7cf53_5 : decode cJ9_min_7cf53 5 = .ok (.iload_n 0, 1) := by decide +kernel
theorem dJ9_min_7cf53_6 : decode cJ9_min_7cf53 6 = .ok (.goto 4, 3) := by decide +kernel
theorem dJ9_min_7cf53_9 : decode cJ9_min_7cf53 9 = .ok (.iload_n 1, 1) := by decide +kernel
theorem dJ9_min_7cf53_10 : decode cJ9_min_7cf53 10 = .ok (.ireturn, 1) := by decide +kernel
theorem dJ7_fill_d0a16_0 : decode cJ7_fill_d0a16 0 = .ok (.iconst 0, 1) := by decide +kernel
theorem dJ7_fill_d0a16_1 : decode cJ7_fill_d0a16 1 = .ok (.istore_n 3, 1) := by decide +kernel
theorem dJ7_fill_d0a16_2 : decode cJ7_fill_d0a16 2 = .ok (.aload_n 0, 1) := by decide +kernel
theorem dJ7_fill_d0a16_3 : decode cJ7_fill_d0a16 3 = .ok (.arraylength, 1) := by decide +kernel
theorem dJ7_fill_d0a16_4 : decode cJ7_fill_d0a16 4 = .ok (.istore 4, 2) := by decide +kernel
theorem dJ7_fill_d0a16_6 : decode cJ7_fill_d0a16 6 = .ok (.iload_n 3, 1) := by decide +kernel
theorem dJ7_fill_d0a16_7 : decode cJ7_fill_d0a16 7 = .ok (.iload 4, 2) := by decide +kernel
theorem dJ7_fill_d0a16_9 : decode cJ7_fill_d0a16 9 = .ok (.if_icmp .ge 13, 3) := by decide +kernel
theorem dJ7_fill_d0a16_12 : decode cJ7_fill_d0a16 12 = .ok (.aload_n 0, 1) := by decide +kernel
theorem dJ7_fill_d0a16_13 : decode cJ7_fill_d0a16 13 = .ok (.iload_n 3, 1) := by decide +kernel
theorem dJ7_fill_d0a16_14 : decode cJ7_fill_d0a16 14 = .ok (.lload_n 1, 1) := by decide +kernel
theorem dJ7_fill_d0a16_15 : decode cJ7_fill_d0a16 15 = .ok (.lastore, 1) := by decide +kernel
theorem dJ7_fill_d0a16_16 : decode cJ7_fill_d0a16 16 = .ok (.iinc 3 1, 3) := by decide +kernel
theorem dJ7_fill_d0a16_19 : decode cJ7_fill_d0a16 19 = .ok (.goto (-13), 3) := by decide +kernel
theorem dJ7_fill_d0a16_22 : decode cJ7_fill_d0a16 22 = .ok (.return_, 1) := by decide +kernel
theorem dJ7_fill_53178_0 : decode cJ7_fill_53178 0 = .ok (.iconst 0, 1) := by decide +kernel
theorem dJ7_fill_53178_1 : decode cJ7_fill_53178 1 = .ok (.istore_n 2, 1) := by decide +kernel
theorem dJ7_fill_53178_2 : decode cJ7_fill_53178 2 = .ok (.aload_n 0, 1) := by decide +kernel
theorem dJ7_fill_53178_3 : decode cJ7_fill_53178 3 = .ok (.arraylength, 1) := by decide +kernel
theorem dJ7_fill_53178_4 : decode cJ7_fill_53178 4 = .ok (.istore_n 3, 1) := by decide +kernel
theorem dJ7_fill_53178_5 : decode cJ7_fill_53178 5 = .ok (.iload_n 2, 1) := by decide +kernel
theorem dJ7_fill_53178_6 : decode cJ7_fill_53178 6 = .ok (.iload_n 3, 1) := by decide +kernel
theorem dJ7_fill_53178_7 : decode cJ7_fill_53178 7 = .ok (.if_icmp .ge 13, 3) := by decide +kernel
theorem dJ7_fill_53178_10 : decode cJ7_fill_53178 10 = .ok (.aload_n 0, 1) := by decide +kernel
theorem dJ7_fill_53178_11 : decode cJ7_fill_53178 11 = .ok (.iload_n 2, 1) := by decide +kernel
theorem dJ7_fill_53178_12 : decode cJ7_fill_53178 12 = .ok (.iload_n 1, 1) := by decide +kernel
theorem dJ7_fill_53178_13 : decode cJ7_fill_53178 13 = .ok (.iastore, 1) := by decide +kernel
theorem dJ7_fill_53178_14 : decode cJ7_fill_53178 14 = .ok (.iinc 2 1, 3) := by decide +kernel
theorem dJ7_fill_53178_17 : decode cJ7_fill_53178 17 = .ok (.goto (-12), 3) := by decide +kernel
theorem dJ7_fill_53178_20 : decode cJ7_fill_53178 20 = .ok (.return_, 1) := by decide +kernel
