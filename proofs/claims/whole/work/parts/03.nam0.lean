theorem dX0_init_0 : decode cX0_init 0 = .ok (.aload_n 0, 1) := by decide +kernel
theorem dX0_init_1 : decode cX0_init 1 = .ok (.invokespecial 3, 3) := by decide +kernel
theorem dX0_init_4 : decode cX0_init 4 = .ok (.aload_n 0, 1) := by decide +kernel
theorem dX0_init_5 : decode cX0_init 5 = .ok (.bipush 8, 2) := by decide +kernel
theorem dX0_init_7 : decode cX0_init 7 = .ok (.newarray .int, 2) := by decide +kernel
theorem dX0_init_9 : decode cX0_init 9 = .ok (.putfield 9, 3) := by decide +kernel
theorem dX0_init_12 : decode cX0_init 12 = .ok (.aload_n 0, 1) := by decide +kernel
theorem dX0_init_13 : decode cX0_init 13 = .ok (.bipush 8, 2) := by decide +kernel
theorem dX0_init_15 : decode cX0_init 15 = .ok (.newarray .int, 2) := by decide +kernel
theorem dX0_init_17 : decode cX0_init 17 = .ok (.putfield 15, 3) := by decide +kernel
theorem dX0_init_20 : decode cX0_init 20 = .ok (.aload_n 0, 1) := by decide +kernel
theorem dX0_init_21 : decode cX0_init 21 = .ok (.bipush 8, 2) := by decide +kernel
theorem dX0_init_23 : decode cX0_init 23 = .ok (.newarray .int, 2) := by decide +kernel
theorem dX0_init_25 : decode cX0_init 25 = .ok (.putfield 18, 3) := by decide +kernel
theorem dX0_init_28 : decode cX0_init 28 = .ok (.aload_n 0, 1) := by decide +kernel
theorem dX0_init_29 : decode cX0_init 29 = .ok (.aload_n 1, 1) := by decide +kernel
theorem dX0_init_30 : decode cX0_init 30 = .ok (.getfield 21, 3) := by decide +kernel
theorem dX0_init_33 : decode cX0_init 33 = .ok (.putfield 27, 3) := by decide +kernel
theorem dX0_init_36 : decode cX0_init 36 = .ok (.aload_n 0, 1) := by decide +kernel
theorem dX0_init_37 : decode cX0_init 37 = .ok (.aload_n 1, 1) := by decide +kernel
theorem dX0_init_38 : decode cX0_init 38 = .ok (.getfield 28, 3) := by decide +kernel
theorem dX0_init_41 : decode cX0_init 41 = .ok (.putfield 32, 3) := by decide +kernel
theorem dX0_init_44 : decode cX0_init 44 = .ok (.aload_n 0, 1) := by decide +kernel
theorem dX0_init_45 : decode cX0_init 45 = .ok (.aload_n 1, 1) := by decide +kernel
theorem dX0_init_46 : decode cX0_init 46 = .ok (.getfield 33, 3) := by decide +kernel
theorem dX0_init_49 : decode cX0_init 49 = .ok (.putfield 37, 3) := by decide +kernel
theorem dX0_init_52 : decode cX0_init 52 = .ok (.return_, 1) := by decide +kernel
set_option maxRecDepth 20000 in
theorem ggX0_update_X0_placeOf : GoodIn wsX0_update wsX0_placeOf := goodIn_r _ [12, 1, 2, 13, 14, 15, 11, 16, 5, 17, 18, 19, 20, 21, 22, 23, 24, 25, 26, 27, 28, 29, 30, 31, 32, 51, 52, 53, 54, 55, 56, 57, 58, 59, 60, 61, 62, 63, 64, 65, 66, 67, 68, 69, 70, 71] (by decide +kernel) (by decide +kernel)
set_option maxRecDepth 20000 in
theorem gX0_update_X0_placeOf : GoodIn wsX0_update (wsV RX0 44 RX0 yX0_placeOf wsX0_placeOf) := goodIn_app (goodIn_of _ (by decide +kernel)) ggX0_update_X0_placeOf
set_option maxRecDepth 20000 in
theorem ggX0_update_X0_giveNumbers : GoodIn wsX0_update wsX0_giveNumbers := goodIn_r _ [36, 1, 2, 7, 5, 37, 3, 38, 39, 40, 11, 41, 42, 43, 44, 45, 46, 47, 48, 49, 50, 51, 52, 53, 54, 55, 56, 57, 58, 59, 60, 61, 62, 63, 64, 65, 66, 67, 68, 69, 70, 71, 72, 73, 74] (by decide +kernel) (by decide +kernel)
set_option maxRecDepth 20000 in
theorem gX0_update_X0_giveNumbers : GoodIn wsX0_update (wsV RX0 48 RX0 yX0_giveNumbers wsX0_giveNumbers) := goodIn_app (goodIn_of _ (by decide +kernel)) ggX0_update_X0_giveNumbers
theorem dX0_update_0 : decode cX0_update 0 = .ok (.iconst 0, 1) := by decide +kernel
theorem dX0_update_1 : decode cX0_update 1 = .ok (.istore_n 1, 1) := by decide +kernel
theorem dX0_update_2 : decode cX0_update 2 = .ok (.iload_n 1, 1) := by decide +kernel
theorem dX0_update_3 : decode cX0_update 3 = .ok (.aload_n 0, 1) := by decide +kernel
theorem dX0_update_4 : decode cX0_update 4 = .ok (.getfield 27, 3) := by decide +kernel
theorem dX0_update_7 : decode cX0_update 7 = .ok (.getfield 38, 3) := by decide +kernel
theorem dX0_update_10 : decode cX0_update 10 = .ok (.if_icmp .ge 20, 3) := by decide +kernel
theorem dX0_update_13 : decode cX0_update 13 = .ok (.aload_n 0, 1) := by decide +kernel
theorem dX0_update_14 : decode cX0_update 14 = .ok (.getfield 9, 3) := by decide +kernel
theorem dX0_update_17 : decode cX0_update 17 = .ok (.aload_n 0, 1) := by decide +kernel
theorem dX0_update_18 : decode cX0_update 18 = .ok (.iload_n 1, 1) := by decide +kernel
theorem dX0_update_19 : decode cX0_update 19 = .ok (.invokevirtual 44, 3) := by decide +kernel
theorem dX0_update_22 : decode cX0_update 22 = .ok (.iload_n 1, 1) := by decide +kernel
theorem dX0_update_23 : decode cX0_update 23 = .ok (.iastore, 1) := by decide +kernel
theorem dX0_update_24 : decode cX0_update 24 = .ok (.iinc 1 1, 3) := by decide +kernel
theorem dX0_update_27 : decode cX0_update 27 = .ok (.goto (-25), 3) := by decide +kernel
theorem dX0_update_30 : decode cX0_update 30 = .ok (.aload_n 0, 1) := by decide +kernel
theorem dX0_update_31 : decode cX0_update 31 = .ok (.invokevirtual 48, 3) := by decide +kernel
theorem dX0_update_34 : decode cX0_update 34 = .ok (.iconst 0, 1) := by decide +kernel
theorem dX0_update_35 : decode cX0_update 35 = .ok (.istore_n 1, 1) := by decide +kernel
theorem dX0_update_36 : decode cX0_update 36 = .ok (.iload_n 1, 1) := by decide +kernel
theorem dX0_update_37 : decode cX0_update 37 = .ok (.aload_n 0, 1) := by decide +kernel
theorem dX0_update_38 : decode cX0_update 38 = .ok (.getfield 27, 3) := by decide +kernel
theorem dX0_update_41 : decode cX0_update 41 = .ok (.getfield 38, 3) := by decide +kernel
theorem dX0_update_44 : decode cX0_update 44 = .ok (.if_icmp .ge 45, 3) := by decide +kernel
theorem dX0_update_47 : decode cX0_update 47 = .ok (.aload_n 0, 1) := by decide +kernel
theorem dX0_update_48 : decode cX0_update 48 = .ok (.getfield 9, 3) := by decide +kernel
theorem dX0_update_51 : decode cX0_update 51 = .ok (.iload_n 1, 1) := by decide +kernel
theorem dX0_update_52 : decode cX0_update 52 = .ok (.iaload, 1) := by decide +kernel
theorem dX0_update_53 : decode cX0_update 53 = .ok (.istore_n 2, 1) := by decide +kernel
theorem dX0_update_54 : decode cX0_update 54 = .ok (.aload_n 0, 1) := by decide +kernel
theorem dX0_update_55 : decode cX0_update 55 = .ok (.getfield 18, 3) := by decide +kernel
theorem dX0_update_58 : decode cX0_update 58 = .ok (.aload_n 0, 1) := by decide +kernel
theorem dX0_update_59 : decode cX0_update 59 = .ok (.getfield 32, 3) := by decide +kernel
theorem dX0_update_62 : decode cX0_update 62 = .ok (.getfield 51, 3) := by decide +kernel
theorem dX0_update_65 : decode cX0_update 65 = .ok (.iconst 1, 1) := by decide +kernel
theorem dX0_update_66 : decode cX0_update 66 = .ok (.if_icmp .ne 14, 3) := by decide +kernel
theorem dX0_update_69 : decode cX0_update 69 = .ok (.aload_n 0, 1) := by decide +kernel
theorem dX0_update_70 : decode cX0_update 70 = .ok (.getfield 15, 3) := by decide +kernel
theorem dX0_update_73 : decode cX0_update 73 = .ok (.iload_n 2, 1) := by decide +kernel
theorem dX0_update_74 : decode cX0_update 74 = .ok (.iaload, 1) := by decide +kernel
theorem dX0_update_75 : decode cX0_update 75 = .ok (.iconst 1, 1) := by decide +kernel
theorem dX0_update_76 : decode cX0_update 76 = .ok (.isub, 1) := by decide +kernel
theorem dX0_update_77 : decode cX0_update 77 = .ok (.goto 4, 3) := by decide +kernel
theorem dX0_update_80 : decode cX0_update 80 = .ok (.iload_n 1, 1) := by decide +kernel
theorem dX0_update_81 : decode cX0_update 81 = .ok (.iload_n 2, 1) := by decide +kernel
theorem dX0_update_82 : decode cX0_update 82 = .ok (.iastore, 1) := by decide +kernel
theorem dX0_update_83 : decode cX0_update 83 = .ok (.iinc 1 1, 3) := by decide +kernel
theorem dX0_update_86 : decode cX0_update 86 = .ok (.goto (-50), 3) := by decide +kernel
theorem dX0_update_89 : decode cX0_update 89 = .ok (.return_, 1) := by decide +kernel
set_option maxRecDepth 20000 in
theorem ggX0_worksWithNumbers_X11_inSet : GoodIn wsX0_worksWithNumbers wsX11_inSet := goodIn_r _ [6] (by decide +kernel) (by decide +kernel)
set_option maxRecDepth 20000 in
theorem gX0_worksWithNumbers_X11_inSet_n56 : GoodIn wsX0_worksWithNumbers (wsX11_inSet) := ggX0_worksWithNumbers_X11_inSet
theorem dX0_worksWithNumbers_0 : decode cX0_worksWithNumbers 0 = .ok (.iconst 0, 1) := by decide +kernel
theorem dX0_worksWithNumbers_1 : decode cX0_worksWithNumbers 1 = .ok (.istore_n 2, 1) := by decide +kernel
theorem dX0_worksWithNumbers_2 : decode cX0_worksWithNumbers 2 = .ok (.iconst 0, 1) := by decide +kernel
theorem dX0_worksWithNumbers_3 : decode cX0_worksWithNumbers 3 = .ok (.istore_n 3, 1) := by decide +kernel
theorem dX0_worksWithNumbers_4 : decode cX0_worksWithNumbers 4 = .ok (.iload_n 3, 1) := by decide +kernel
theorem dX0_worksWithNumbers_5 : decode cX0_worksWithNumbers 5 = .ok (.aload_n 0, 1) := by decide +kernel
theorem dX0_worksWithNumbers_6 : decode cX0_worksWithNumbers 6 = .ok (.getfield 27, 3) := by decide +kernel
theorem dX0_worksWithNumbers_9 : decode cX0_worksWithNumbers 9 = .ok (.getfield 38, 3) := by decide +kernel
theorem dX0_worksWithNumbers_12 : decode cX0_worksWithNumbers 12 = .ok (.if_icmp .ge 28, 3) := by decide +kernel
theorem dX0_worksWithNumbers_15 : decode cX0_worksWithNumbers 15 = .ok (.iload_n 1, 1) := by decide +kernel
theorem dX0_worksWithNumbers_16 : decode cX0_worksWithNumbers 16 = .ok (.aload_n 0, 1) := by decide +kernel
theorem dX0_worksWithNumbers_17 : decode cX0_worksWithNumbers 17 = .ok (.getfield 15, 3) := by decide +kernel
theorem dX0_worksWithNumbers_20 : decode cX0_worksWithNumbers 20 = .ok (.iload_n 3, 1) := by decide +kernel
theorem dX0_worksWithNumbers_21 : decode cX0_worksWithNumbers 21 = .ok (.iaload, 1) := by decide +kernel
theorem dX0_worksWithNumbers_22 : decode cX0_worksWithNumbers 22 = .ok (.invokestatic 56, 3) := by decide +kernel
theorem dX0_worksWithNumbers_25 : decode cX0_worksWithNumbers 25 = .ok (.ifCond .eq 9, 3) := by decide +kernel
theorem dX0_worksWithNumbers_28 : decode cX0_worksWithNumbers 28 = .ok (.iload_n 2, 1) := by decide +kernel
theorem dX0_worksWithNumbers_29 : decode cX0_worksWithNumbers 29 = .ok (.iconst 1, 1) := by decide +kernel
theorem dX0_worksWithNumbers_30 : decode cX0_worksWithNumbers 30 = .ok (.iload_n 3, 1) := by decide +kernel
theorem dX0_worksWithNumbers_31 : decode cX0_worksWithNumbers 31 = .ok (.ishl, 1) := by decide +kernel
theorem dX0_worksWithNumbers_32 : decode cX0_worksWithNumbers 32 = .ok (.ior, 1) := by decide +kernel
theorem dX0_worksWithNumbers_33 : decode cX0_worksWithNumbers 33 = .ok (.istore_n 2, 1) := by decide +kernel
theorem dX0_worksWithNumbers_34 : decode cX0_worksWithNumbers 34 = .ok (.iinc 3 1, 3) := by decide +kernel
theorem dX0_worksWithNumbers_37 : decode cX0_worksWithNumbers 37 = .ok (.goto (-33), 3) := by decide +kernel
theorem dX0_worksWithNumbers_40 : decode cX0_worksWithNumbers 40 = .ok (.iload_n 2, 1) := by decide +kernel
theorem dX0_worksWithNumbers_41 : decode cX0_worksWithNumbers 41 = .ok (.ireturn, 1) := by decide +kernel
set_option maxRecDepth 20000 in
theorem ggX0_placeOf_X0_precedes : GoodIn wsX0_placeOf wsX0_precedes := goodIn_r _ [7, 8, 9, 10, 11, 12, 13, 6, 14, 1, 15, 16, 17, 18, 19, 20, 21, 22, 23, 24, 25, 26, 27, 28, 29, 30, 37, 38, 39, 40, 41, 42, 43, 44, 45, 31, 32, 33, 34, 35, 36] (by decide +kernel) (by decide +kernel)
set_option maxRecDepth 20000 in
theorem gX0_placeOf_X0_precedes : GoodIn wsX0_placeOf (wsV RX0 60 RX0 yX0_precedes wsX0_precedes) := goodIn_app (goodIn_of _ (by decide +kernel)) ggX0_placeOf_X0_precedes
theorem dX0_placeOf_0 : decode cX0_placeOf 0 = .ok (.iconst 0, 1) := by decide +kernel
theorem dX0_placeOf_1 : decode cX0_placeOf 1 = .ok (.istore_n 2, 1) := by decide +kernel
theorem dX0_placeOf_2 : decode cX0_placeOf 2 = .ok (.iconst 0, 1) := by decide +kernel
theorem dX0_placeOf_3 : decode cX0_placeOf 3 = .ok (.istore_n 3, 1) := by decide +kernel
theorem dX0_placeOf_4 : decode cX0_placeOf 4 = .ok (.iload_n 3, 1) := by decide +kernel
theorem dX0_placeOf_5 : decode cX0_placeOf 5 = .ok (.aload_n 0, 1) := by decide +kernel
theorem dX0_placeOf_6 : decode cX0_placeOf 6 = .ok (.getfield 27, 3) := by decide +kernel
theorem dX0_placeOf_9 : decode cX0_placeOf 9 = .ok (.getfield 38, 3) := by decide +kernel
theorem dX0_placeOf_12 : decode cX0_placeOf 12 = .ok (.if_icmp .ge 21, 3) := by decide +kernel
theorem dX0_placeOf_15 : decode cX0_placeOf 15 = .ok (.aload_n 0, 1) := by decide +kernel
theorem dX0_placeOf_16 : decode cX0_placeOf 16 = .ok (.iload_n 3, 1) := by decide +kernel
theorem dX0_placeOf_17 : decode cX0_placeOf 17 = .ok (.iload_n 1, 1) := by decide +kernel
theorem dX0_placeOf_18 : decode cX0_placeOf 18 = .ok (.invokevirtual 60, 3) := by decide +kernel
theorem dX0_placeOf_21 : decode cX0_placeOf 21 = .ok (.ifCond .eq 6, 3) := by decide +kernel
theorem dX0_placeOf_24 : decode cX0_placeOf 24 = .ok (.iinc 2 1, 3) := by decide +kernel
theorem dX0_placeOf_27 : decode cX0_placeOf 27 = .ok (.iinc 3 1, 3) := by decide +kernel
theorem dX0_placeOf_30 : decode cX0_placeOf 30 = .ok (.goto (-26), 3) := by decide +kernel
theorem dX0_placeOf_33 : decode cX0_placeOf 33 = .ok (.iload_n 2, 1) := by decide +kernel
theorem dX0_placeOf_34 : decode cX0_placeOf 34 = .ok (.ireturn, 1) := by decide +kernel
set_option maxRecDepth 20000 in
theorem ggX0_precedes_X0_compare : GoodIn wsX0_precedes wsX0_compare := goodIn_r _ [8, 9, 10, 11, 12, 13, 14, 15, 16, 17, 18, 19, 20, 21, 22, 23, 24, 25, 35, 36, 37, 38, 39, 40] (by decide +kernel) (by decide +kernel)
set_option maxRecDepth 20000 in
theorem gX0_precedes_X0_compare : GoodIn wsX0_precedes (wsV RX0 66 RX0 yX0_compare wsX0_compare) := goodIn_app (goodIn_of _ (by decide +kernel)) ggX0_precedes_X0_compare
theorem dX0_precedes_0 : decode cX0_precedes 0 = .ok (.iconst 0, 1) := by decide +kernel
theorem dX0_precedes_1 : decode cX0_precedes 1 = .ok (.istore_n 3, 1) := by decide +kernel
theorem dX0_precedes_2 : decode cX0_precedes 2 = .ok (.iload_n 3, 1) := by decide +kernel
theorem dX0_precedes_3 : decode cX0_precedes 3 = .ok (.iconst 3, 1) := by decide +kernel
theorem dX0_precedes_4 : decode cX0_precedes 4 = .ok (.if_icmp .ge 67, 3) := by decide +kernel
theorem dX0_precedes_7 : decode cX0_precedes 7 = .ok (.aload_n 0, 1) := by decide +kernel
theorem dX0_precedes_8 : decode cX0_precedes 8 = .ok (.aload_n 0, 1) := by decide +kernel
theorem dX0_precedes_9 : decode cX0_precedes 9 = .ok (.getfield 32, 3) := by decide +kernel
theorem dX0_precedes_12 : decode cX0_precedes 12 = .ok (.getfield 63, 3) := by decide +kernel
theorem dX0_precedes_15 : decode cX0_precedes 15 = .ok (.iload_n 3, 1) := by decide +kernel
theorem dX0_precedes_16 : decode cX0_precedes 16 = .ok (.iaload, 1) := by decide +kernel
theorem dX0_precedes_17 : decode cX0_precedes 17 = .ok (.iload_n 1, 1) := by decide +kernel
theorem dX0_precedes_18 : decode cX0_precedes 18 = .ok (.iload_n 2, 1) := by decide +kernel
theorem dX0_precedes_19 : decode cX0_precedes 19 = .ok (.invokevirtual 66, 3) := by decide +kernel
theorem dX0_precedes_22 : decode cX0_precedes 22 = .ok (.istore 4, 2) := by decide +kernel
theorem dX0_precedes_24 : decode cX0_precedes 24 = .ok (.iload 4, 2) := by decide +kernel
theorem dX0_precedes_26 : decode cX0_precedes 26 = .ok (.ifCond .eq 39, 3) := by decide +kernel
theorem dX0_precedes_29 : decode cX0_precedes 29 = .ok (.iload 4, 2) := by decide +kernel
theorem dX0_precedes_31 : decode cX0_precedes 31 = .ok (.ifCond .ge 7, 3) := by decide +kernel
theorem dX0_precedes_34 : decode cX0_precedes 34 = .ok (.iconst 1, 1) := by decide +kernel
theorem dX0_precedes_35 : decode cX0_precedes 35 = .ok (.goto 4, 3) := by decide +kernel
theorem dX0_precedes_38 : decode cX0_precedes 38 = .ok (.iconst 0, 1) := by decide +kernel
theorem dX0_precedes_39 : decode cX0_precedes 39 = .ok (.aload_n 0, 1) := by decide +kernel
theorem dX0_precedes_40 : decode cX0_precedes 40 = .ok (.getfield 32, 3) := by decide +kernel
theorem dX0_precedes_43 : decode cX0_precedes 43 = .ok (.getfield 70, 3) := by decide +kernel
theorem dX0_precedes_46 : decode cX0_precedes 46 = .ok (.iload_n 3, 1) := by decide +kernel
theorem dX0_precedes_47 : decode cX0_precedes 47 = .ok (.iaload, 1) := by decide +kernel
theorem dX0_precedes_48 : decode cX0_precedes 48 = .ok (.ifCond .ne 7, 3) := by decide +kernel
theorem dX0_precedes_51 : decode cX0_precedes 51 = .ok (.iconst 1, 1) := by decide +kernel
theorem dX0_precedes_52 : decode cX0_precedes 52 = .ok (.goto 4, 3) := by decide +kernel
theorem dX0_precedes_55 : decode cX0_precedes 55 = .ok (.iconst 0, 1) := by decide +kernel
theorem dX0_precedes_56 : decode cX0_precedes 56 = .ok (.if_icmp .ne 7, 3) := by decide +kernel
theorem dX0_precedes_59 : decode cX0_precedes 59 = .ok (.iconst 1, 1) := by decide +kernel
theorem dX0_precedes_60 : decode cX0_precedes 60 = .ok (.goto 4, 3) := by decide +kernel
theorem dX0_precedes_63 : decode cX0_precedes 63 = .ok (.iconst 0, 1) := by decide +kernel
theorem dX0_precedes_64 : decode cX0_precedes 64 = .ok (.ireturn, 1) := by decide +kernel
theorem dX0_precedes_65 : decode cX0_precedes 65 = .ok (.iinc 3 1, 3) := by decide +kernel
theorem dX0_precedes_68 : decode cX0_precedes 68 = .ok (.goto (-66), 3) := by decide +kernel
theorem dX0_precedes_71 : decode cX0_precedes 71 = .ok (.iload_n 1, 1) := by decide +kernel
theorem dX0_precedes_72 : decode cX0_precedes 72 = .ok (.iload_n 2, 1) := by decide +kernel
theorem dX0_precedes_73 : decode cX0_precedes 73 = .ok (.if_icmp .ge 7, 3) := by decide +kernel
theorem dX0_precedes_76 : decode cX0_precedes 76 = .ok (.iconst 1, 1) := by decide +kernel
theorem dX0_precedes_77 : decode cX0_precedes 77 = .ok (.goto 4, 3) := by decide +kernel
theorem dX0_precedes_80 : decode cX0_precedes 80 = .ok (.iconst 0, 1) := by decide +kernel
theorem dX0_precedes_81 : decode cX0_precedes 81 = .ok (.ireturn, 1) := by decide +kernel
set_option maxRecDepth 20000 in
theorem ggX0_compare_X9_compareAuthors : GoodIn wsX0_compare wsX9_compareAuthors := goodIn_r _ [8, 9, 10, 11, 18, 19, 20, 21, 22, 23] (by decide +kernel) (by decide +kernel)
set_option maxRecDepth 20000 in
theorem gX0_compare_X9_compareAuthors : GoodIn wsX0_compare (wsV RX0 73 RX9 yX9_compareAuthors wsX9_compareAuthors) := goodIn_app (goodIn_of _ (by decide +kernel)) ggX0_compare_X9_compareAuthors
theorem dX0_compare_0 : decode cX0_compare 0 = .ok (.iload_n 1, 1) := by decide +kernel
theorem dX0_compare_1 : decode cX0_compare 1 = .ok (.tableswitch 77 1 3 #[27, 37, 57], 27) := by decide +kernel
theorem dX0_compare_28 : decode cX0_compare 28 = .ok (.aload_n 0, 1) := by decide +kernel
theorem dX0_compare_29 : decode cX0_compare 29 = .ok (.getfield 27, 3) := by decide +kernel
theorem dX0_compare_32 : decode cX0_compare 32 = .ok (.iload_n 2, 1) := by decide +kernel
theorem dX0_compare_33 : decode cX0_compare 33 = .ok (.iload_n 3, 1) := by decide +kernel
theorem dX0_compare_34 : decode cX0_compare 34 = .ok (.invokevirtual 73, 3) := by decide +kernel
theorem dX0_compare_37 : decode cX0_compare 37 = .ok (.ireturn, 1) := by decide +kernel
theorem dX0_compare_38 : decode cX0_compare 38 = .ok (.aload_n 0, 1) := by decide +kernel
theorem dX0_compare_39 : decode cX0_compare 39 = .ok (.getfield 27, 3) := by decide +kernel
theorem dX0_compare_42 : decode cX0_compare 42 = .ok (.getfield 77, 3) := by decide +kernel
theorem dX0_compare_45 : decode cX0_compare 45 = .ok (.iload_n 2, 1) := by decide +kernel
theorem dX0_compare_46 : decode cX0_compare 46 = .ok (.iaload, 1) := by decide +kernel
theorem dX0_compare_47 : decode cX0_compare 47 = .ok (.aload_n 0, 1) := by decide +kernel
theorem dX0_compare_48 : decode cX0_compare 48 = .ok (.getfield 27, 3) := by decide +kernel
theorem dX0_compare_51 : decode cX0_compare 51 = .ok (.getfield 77, 3) := by decide +kernel
theorem dX0_compare_54 : decode cX0_compare 54 = .ok (.iload_n 3, 1) := by decide +kernel
theorem dX0_compare_55 : decode cX0_compare 55 = .ok (.iaload, 1) := by decide +kernel
theorem dX0_compare_56 : decode cX0_compare 56 = .ok (.isub, 1) := by decide +kernel
theorem dX0_compare_57 : decode cX0_compare 57 = .ok (.ireturn, 1) := by decide +kernel
theorem dX0_compare_58 : decode cX0_compare 58 = .ok (.aload_n 0, 1) := by decide +kernel
theorem dX0_compare_59 : decode cX0_compare 59 = .ok (.getfield 27, 3) := by decide +kernel
theorem dX0_compare_62 : decode cX0_compare 62 = .ok (.getfield 80, 3) := by decide +kernel
theorem dX0_compare_65 : decode cX0_compare 65 = .ok (.iload_n 2, 1) := by decide +kernel
theorem dX0_compare_66 : decode cX0_compare 66 = .ok (.iaload, 1) := by decide +kernel
theorem dX0_compare_67 : decode cX0_compare 67 = .ok (.aload_n 0, 1) := by decide +kernel
theorem dX0_compare_68 : decode cX0_compare 68 = .ok (.getfield 27, 3) := by decide +kernel
theorem dX0_compare_71 : decode cX0_compare 71 = .ok (.getfield 80, 3) := by decide +kernel
theorem dX0_compare_74 : decode cX0_compare 74 = .ok (.iload_n 3, 1) := by decide +kernel
theorem dX0_compare_75 : decode cX0_compare 75 = .ok (.iaload, 1) := by decide +kernel
theorem dX0_compare_76 : decode cX0_compare 76 = .ok (.isub, 1) := by decide +kernel
theorem dX0_compare_77 : decode cX0_compare 77 = .ok (.ireturn, 1) := by decide +kernel
theorem dX0_compare_78 : decode cX0_compare 78 = .ok (.iconst 0, 1) := by decide +kernel
theorem dX0_compare_79 : decode cX0_compare 79 = .ok (.ireturn, 1) := by decide +kernel
set_option maxRecDepth 20000 in
theorem ggX0_giveNumbers_X0_numberCitedWorks : GoodIn wsX0_giveNumbers wsX0_numberCitedWorks := goodIn_r _ [11, 12, 13, 14, 3, 15, 16, 17, 18, 19, 20, 21, 22, 23, 24, 25, 26, 42, 43, 44] (by decide +kernel) (by decide +kernel)
set_option maxRecDepth 20000 in
theorem gX0_giveNumbers_X0_numberCitedWorks : GoodIn wsX0_giveNumbers (wsV RX0 86 RX0 yX0_numberCitedWorks wsX0_numberCitedWorks) := goodIn_app (goodIn_of _ (by decide +kernel)) ggX0_giveNumbers_X0_numberCitedWorks
theorem dX0_giveNumbers_0 : decode cX0_giveNumbers 0 = .ok (.iconst 0, 1) := by decide +kernel
theorem dX0_giveNumbers_1 : decode cX0_giveNumbers 1 = .ok (.istore_n 1, 1) := by decide +kernel
theorem dX0_giveNumbers_2 : decode cX0_giveNumbers 2 = .ok (.iconst 0, 1) := by decide +kernel
theorem dX0_giveNumbers_3 : decode cX0_giveNumbers 3 = .ok (.istore_n 2, 1) := by decide +kernel
theorem dX0_giveNumbers_4 : decode cX0_giveNumbers 4 = .ok (.iload_n 2, 1) := by decide +kernel
theorem dX0_giveNumbers_5 : decode cX0_giveNumbers 5 = .ok (.aload_n 0, 1) := by decide +kernel
theorem dX0_giveNumbers_6 : decode cX0_giveNumbers 6 = .ok (.getfield 27, 3) := by decide +kernel
theorem dX0_giveNumbers_9 : decode cX0_giveNumbers 9 = .ok (.getfield 38, 3) := by decide +kernel
theorem dX0_giveNumbers_12 : decode cX0_giveNumbers 12 = .ok (.if_icmp .ge 16, 3) := by decide +kernel
theorem dX0_giveNumbers_15 : decode cX0_giveNumbers 15 = .ok (.aload_n 0, 1) := by decide +kernel
theorem dX0_giveNumbers_16 : decode cX0_giveNumbers 16 = .ok (.getfield 15, 3) := by decide +kernel
theorem dX0_giveNumbers_19 : decode cX0_giveNumbers 19 = .ok (.iload_n 2, 1) := by decide +kernel
theorem dX0_giveNumbers_20 : decode cX0_giveNumbers 20 = .ok (.iconst 0, 1) := by decide +kernel
theorem dX0_giveNumbers_21 : decode cX0_giveNumbers 21 = .ok (.iastore, 1) := by decide +kernel
theorem dX0_giveNumbers_22 : decode cX0_giveNumbers 22 = .ok (.iinc 2 1, 3) := by decide +kernel
theorem dX0_giveNumbers_25 : decode cX0_giveNumbers 25 = .ok (.goto (-21), 3) := by decide +kernel
theorem dX0_giveNumbers_28 : decode cX0_giveNumbers 28 = .ok (.aload_n 0, 1) := by decide +kernel
theorem dX0_giveNumbers_29 : decode cX0_giveNumbers 29 = .ok (.getfield 32, 3) := by decide +kernel
theorem dX0_giveNumbers_32 : decode cX0_giveNumbers 32 = .ok (.getfield 83, 3) := by decide +kernel
theorem dX0_giveNumbers_35 : decode cX0_giveNumbers 35 = .ok (.iconst 1, 1) := by decide +kernel
theorem dX0_giveNumbers_36 : decode cX0_giveNumbers 36 = .ok (.if_icmp .ne 8, 3) := by decide +kernel
theorem dX0_giveNumbers_39 : decode cX0_giveNumbers 39 = .ok (.aload_n 0, 1) := by decide +kernel
theorem dX0_giveNumbers_40 : decode cX0_giveNumbers 40 = .ok (.invokevirtual 86, 3) := by decide +kernel
theorem dX0_giveNumbers_43 : decode cX0_giveNumbers 43 = .ok (.istore_n 1, 1) := by decide +kernel
theorem dX0_giveNumbers_44 : decode cX0_giveNumbers 44 = .ok (.iconst 0, 1) := by decide +kernel
theorem dX0_giveNumbers_45 : decode cX0_giveNumbers 45 = .ok (.istore_n 2, 1) := by decide +kernel
theorem dX0_giveNumbers_46 : decode cX0_giveNumbers 46 = .ok (.iload_n 2, 1) := by decide +kernel
theorem dX0_giveNumbers_47 : decode cX0_giveNumbers 47 = .ok (.aload_n 0, 1) := by decide +kernel
theorem dX0_giveNumbers_48 : decode cX0_giveNumbers 48 = .ok (.getfield 27, 3) := by decide +kernel
theorem dX0_giveNumbers_51 : decode cX0_giveNumbers 51 = .ok (.getfield 38, 3) := by decide +kernel
theorem dX0_giveNumbers_54 : decode cX0_giveNumbers 54 = .ok (.if_icmp .ge 38, 3) := by decide +kernel
theorem dX0_giveNumbers_57 : decode cX0_giveNumbers 57 = .ok (.aload_n 0, 1) := by decide +kernel
theorem dX0_giveNumbers_58 : decode cX0_giveNumbers 58 = .ok (.getfield 15, 3) := by decide +kernel
theorem dX0_giveNumbers_61 : decode cX0_giveNumbers 61 = .ok (.aload_n 0, 1) := by decide +kernel
theorem dX0_giveNumbers_62 : decode cX0_giveNumbers 62 = .ok (.getfield 9, 3) := by decide +kernel
theorem dX0_giveNumbers_65 : decode cX0_giveNumbers 65 = .ok (.iload_n 2, 1) := by decide +kernel
theorem dX0_giveNumbers_66 : decode cX0_giveNumbers 66 = .ok (.iaload, 1) := by decide +kernel
theorem dX0_giveNumbers_67 : decode cX0_giveNumbers 67 = .ok (.iaload, 1) := by decide +kernel
theorem dX0_giveNumbers_68 : decode cX0_giveNumbers 68 = .ok (.ifCond .ne 18, 3) := by decide +kernel
theorem dX0_giveNumbers_71 : decode cX0_giveNumbers 71 = .ok (.iinc 1 1, 3) := by decide +kernel
theorem dX0_giveNumbers_74 : decode cX0_giveNumbers 74 = .ok (.aload_n 0, 1) := by decide +kernel
theorem dX0_giveNumbers_75 : decode cX0_giveNumbers 75 = .ok (.getfield 15, 3) := by decide +kernel
theorem dX0_giveNumbers_78 : decode cX0_giveNumbers 78 = .ok (.aload_n 0, 1) := by decide +kernel
theorem dX0_giveNumbers_79 : decode cX0_giveNumbers 79 = .ok (.getfield 9, 3) := by decide +kernel
theorem dX0_giveNumbers_82 : decode cX0_giveNumbers 82 = .ok (.iload_n 2, 1) := by decide +kernel
theorem dX0_giveNumbers_83 : decode cX0_giveNumbers 83 = .ok (.iaload, 1) := by decide +kernel
theorem dX0_giveNumbers_84 : decode cX0_giveNumbers 84 = .ok (.iload_n 1, 1) := by decide +kernel
theorem dX0_giveNumbers_85 : decode cX0_giveNumbers 85 = .ok (.iastore, 1) := by decide +kernel
theorem dX0_giveNumbers_86 : decode cX0_giveNumbers 86 = .ok (.iinc 2 1, 3) := by decide +kernel
theorem dX0_giveNumbers_89 : decode cX0_giveNumbers 89 = .ok (.goto (-43), 3) := by decide +kernel
theorem dX0_giveNumbers_92 : decode cX0_giveNumbers 92 = .ok (.return_, 1) := by decide +kernel
set_option maxRecDepth 20000 in
theorem ggX0_numberCitedWorks_X1_workAt : GoodIn wsX0_numberCitedWorks wsX1_workAt := goodIn_r _ [9, 10, 17, 18, 19] (by decide +kernel) (by decide +kernel)
set_option maxRecDepth 20000 in
theorem gX0_numberCitedWorks_X1_workAt : GoodIn wsX0_numberCitedWorks (wsV RX0 96 RX1 yX1_workAt wsX1_workAt) := goodIn_app (goodIn_of _ (by decide +kernel)) ggX0_numberCitedWorks_X1_workAt
theorem dX0_numberCitedWorks_0 : decode cX0_numberCitedWorks 0 = .ok (.iconst 0, 1) := by decide +kernel
theorem dX0_numberCitedWorks_1 : decode cX0_numberCitedWorks 1 = .ok (.istore_n 1, 1) := by decide +kernel
theorem dX0_numberCitedWorks_2 : decode cX0_numberCitedWorks 2 = .ok (.iconst 0, 1) := by decide +kernel
theorem dX0_numberCitedWorks_3 : decode cX0_numberCitedWorks 3 = .ok (.istore_n 2, 1) := by decide +kernel
theorem dX0_numberCitedWorks_4 : decode cX0_numberCitedWorks 4 = .ok (.iload_n 2, 1) := by decide +kernel
theorem dX0_numberCitedWorks_5 : decode cX0_numberCitedWorks 5 = .ok (.aload_n 0, 1) := by decide +kernel
theorem dX0_numberCitedWorks_6 : decode cX0_numberCitedWorks 6 = .ok (.getfield 37, 3) := by decide +kernel
theorem dX0_numberCitedWorks_9 : decode cX0_numberCitedWorks 9 = .ok (.getfield 90, 3) := by decide +kernel
theorem dX0_numberCitedWorks_12 : decode cX0_numberCitedWorks 12 = .ok (.if_icmp .ge 62, 3) := by decide +kernel
theorem dX0_numberCitedWorks_15 : decode cX0_numberCitedWorks 15 = .ok (.iconst 0, 1) := by decide +kernel
theorem dX0_numberCitedWorks_16 : decode cX0_numberCitedWorks 16 = .ok (.istore_n 3, 1) := by decide +kernel
theorem dX0_numberCitedWorks_17 : decode cX0_numberCitedWorks 17 = .ok (.iload_n 3, 1) := by decide +kernel
theorem dX0_numberCitedWorks_18 : decode cX0_numberCitedWorks 18 = .ok (.aload_n 0, 1) := by decide +kernel
theorem dX0_numberCitedWorks_19 : decode cX0_numberCitedWorks 19 = .ok (.getfield 37, 3) := by decide +kernel
theorem dX0_numberCitedWorks_22 : decode cX0_numberCitedWorks 22 = .ok (.getfield 93, 3) := by decide +kernel
theorem dX0_numberCitedWorks_25 : decode cX0_numberCitedWorks 25 = .ok (.iload_n 2, 1) := by decide +kernel
theorem dX0_numberCitedWorks_26 : decode cX0_numberCitedWorks 26 = .ok (.iaload, 1) := by decide +kernel
theorem dX0_numberCitedWorks_27 : decode cX0_numberCitedWorks 27 = .ok (.if_icmp .ge 41, 3) := by decide +kernel
theorem dX0_numberCitedWorks_30 : decode cX0_numberCitedWorks 30 = .ok (.aload_n 0, 1) := by decide +kernel
theorem dX0_numberCitedWorks_31 : decode cX0_numberCitedWorks 31 = .ok (.getfield 37, 3) := by decide +kernel
theorem dX0_numberCitedWorks_34 : decode cX0_numberCitedWorks 34 = .ok (.iload_n 2, 1) := by decide +kernel
theorem dX0_numberCitedWorks_35 : decode cX0_numberCitedWorks 35 = .ok (.iload_n 3, 1) := by decide +kernel
theorem dX0_numberCitedWorks_36 : decode cX0_numberCitedWorks 36 = .ok (.invokevirtual 96, 3) := by decide +kernel
theorem dX0_numberCitedWorks_39 : decode cX0_numberCitedWorks 39 = .ok (.istore 4, 2) := by decide +kernel
theorem dX0_numberCitedWorks_41 : decode cX0_numberCitedWorks 41 = .ok (.aload_n 0, 1) := by decide +kernel
theorem dX0_numberCitedWorks_42 : decode cX0_numberCitedWorks 42 = .ok (.getfield 15, 3) := by decide +kernel
theorem dX0_numberCitedWorks_45 : decode cX0_numberCitedWorks 45 = .ok (.iload 4, 2) := by decide +kernel
theorem dX0_numberCitedWorks_47 : decode cX0_numberCitedWorks 47 = .ok (.iaload, 1) := by decide +kernel
theorem dX0_numberCitedWorks_48 : decode cX0_numberCitedWorks 48 = .ok (.ifCond .ne 14, 3) := by decide +kernel
theorem dX0_numberCitedWorks_51 : decode cX0_numberCitedWorks 51 = .ok (.iinc 1 1, 3) := by decide +kernel
theorem dX0_numberCitedWorks_54 : decode cX0_numberCitedWorks 54 = .ok (.aload_n 0, 1) := by decide +kernel
theorem dX0_numberCitedWorks_55 : decode cX0_numberCitedWorks 55 = .ok (.getfield 15, 3) := by decide +kernel
theorem dX0_numberCitedWorks_58 : decode cX0_numberCitedWorks 58 = .ok (.iload 4, 2) := by decide +kernel
theorem dX0_numberCitedWorks_60 : decode cX0_numberCitedWorks 60 = .ok (.iload_n 1, 1) := by decide +kernel
theorem dX0_numberCitedWorks_61 : decode cX0_numberCitedWorks 61 = .ok (.iastore, 1) := by decide +kernel
theorem dX0_numberCitedWorks_62 : decode cX0_numberCitedWorks 62 = .ok (.iinc 3 1, 3) := by decide +kernel
theorem dX0_numberCitedWorks_65 : decode cX0_numberCitedWorks 65 = .ok (.goto (-48), 3) := by decide +kernel
theorem dX0_numberCitedWorks_68 : decode cX0_numberCitedWorks 68 = .ok (.iinc 2 1, 3) := by decide +kernel
theorem dX0_numberCitedWorks_71 : decode cX0_numberCitedWorks 71 = .ok (.goto (-67), 3) := by decide +kernel
theorem dX0_numberCitedWorks_74 : decode cX0_numberCitedWorks 74 = .ok (.iload_n 1, 1) := by decide +kernel
theorem dX0_numberCitedWorks_75 : decode cX0_numberCitedWorks 75 = .ok (.ireturn, 1) := by decide +kernel
theorem dX1_init_0 : decode cX1_init 0 = .ok (.aload_n 0, 1) := by decide +kernel
theorem dX1_init_1 : decode cX1_init 1 = .ok (.invokespecial 3, 3) := by decide +kernel
theorem dX1_init_4 : decode cX1_init 4 = .ok (.aload_n 0, 1) := by decide +kernel
theorem dX1_init_5 : decode cX1_init 5 = .ok (.iconst 0, 1) := by decide +kernel
theorem dX1_init_6 : decode cX1_init 6 = .ok (.putfield 9, 3) := by decide +kernel
theorem dX1_init_9 : decode cX1_init 9 = .ok (.aload_n 0, 1) := by decide +kernel
theorem dX1_init_10 : decode cX1_init 10 = .ok (.bipush 10, 2) := by decide +kernel
theorem dX1_init_12 : decode cX1_init 12 = .ok (.newarray .int, 2) := by decide +kernel
theorem dX1_init_14 : decode cX1_init 14 = .ok (.putfield 15, 3) := by decide +kernel
theorem dX1_init_17 : decode cX1_init 17 = .ok (.aload_n 0, 1) := by decide +kernel
theorem dX1_init_18 : decode cX1_init 18 = .ok (.bipush 50, 2) := by decide +kernel
theorem dX1_init_20 : decode cX1_init 20 = .ok (.newarray .int, 2) := by decide +kernel
theorem dX1_init_22 : decode cX1_init 22 = .ok (.putfield 19, 3) := by decide +kernel
theorem dX1_init_25 : decode cX1_init 25 = .ok (.return_, 1) := by decide +kernel
theorem dX1_has_0 : decode cX1_has 0 = .ok (.iload_n 1, 1) := by decide +kernel
theorem dX1_has_1 : decode cX1_has 1 = .ok (.ifCond .lt 15, 3) := by decide +kernel
theorem dX1_has_4 : decode cX1_has 4 = .ok (.iload_n 1, 1) := by decide +kernel
theorem dX1_has_5 : decode cX1_has 5 = .ok (.aload_n 0, 1) := by decide +kernel
theorem dX1_has_6 : decode cX1_has 6 = .ok (.getfield 9, 3) := by decide +kernel
theorem dX1_has_9 : decode cX1_has 9 = .ok (.if_icmp .ge 7, 3) := by decide +kernel
theorem dX1_has_12 : decode cX1_has 12 = .ok (.iconst 1, 1) := by decide +kernel
theorem dX1_has_13 : decode cX1_has 13 = .ok (.goto 4, 3) := by decide +kernel
theorem dX1_has_16 : decode cX1_has 16 = .ok (.iconst 0, 1) := by decide +kernel
theorem dX1_has_17 : decode cX1_has 17 = .ok (.ireturn, 1) := by decide +kernel
theorem dX1_workAt_0 : decode cX1_workAt 0 = .ok (.aload_n 0, 1) := by decide +kernel
theorem dX1_workAt_1 : decode cX1_workAt 1 = .ok (.getfield 19, 3) := by decide +kernel
theorem dX1_workAt_4 : decode cX1_workAt 4 = .ok (.iload_n 1, 1) := by decide +kernel
theorem dX1_workAt_5 : decode cX1_workAt 5 = .ok (.iconst 5, 1) := by decide +kernel
theorem dX1_workAt_6 : decode cX1_workAt 6 = .ok (.imul, 1) := by decide +kernel
theorem dX1_workAt_7 : decode cX1_workAt 7 = .ok (.iload_n 2, 1) := by decide +kernel
theorem dX1_workAt_8 : decode cX1_workAt 8 = .ok (.iadd, 1) := by decide +kernel
theorem dX1_workAt_9 : decode cX1_workAt 9 = .ok (.iaload, 1) := by decide +kernel
theorem dX1_workAt_10 : decode cX1_workAt 10 = .ok (.ireturn, 1) := by decide +kernel
set_option maxRecDepth 20000 in
theorem ggX1_cites_X1_workAt : GoodIn wsX1_cites wsX1_workAt := goodIn_r _ [6, 7, 8, 9, 10] (by decide +kernel) (by decide +kernel)
set_option maxRecDepth 20000 in
theorem gX1_cites_X1_workAt : GoodIn wsX1_cites (wsV RX1 22 RX1 yX1_workAt wsX1_workAt) := goodIn_app (goodIn_of _ (by decide +kernel)) ggX1_cites_X1_workAt
theorem dX1_cites_0 : decode cX1_cites 0 = .ok (.iconst 0, 1) := by decide +kernel
theorem dX1_cites_1 : decode cX1_cites 1 = .ok (.istore_n 3, 1) := by decide +kernel
theorem dX1_cites_2 : decode cX1_cites 2 = .ok (.iload_n 3, 1) := by decide +kernel
theorem dX1_cites_3 : decode cX1_cites 3 = .ok (.aload_n 0, 1) := by decide +kernel
theorem dX1_cites_4 : decode cX1_cites 4 = .ok (.getfield 15, 3) := by decide +kernel
theorem dX1_cites_7 : decode cX1_cites 7 = .ok (.iload_n 1, 1) := by decide +kernel
theorem dX1_cites_8 : decode cX1_cites 8 = .ok (.iaload, 1) := by decide +kernel
theorem dX1_cites_9 : decode cX1_cites 9 = .ok (.if_icmp .ge 21, 3) := by decide +kernel
theorem dX1_cites_12 : decode cX1_cites 12 = .ok (.aload_n 0, 1) := by decide +kernel
theorem dX1_cites_13 : decode cX1_cites 13 = .ok (.iload_n 1, 1) := by decide +kernel
theorem dX1_cites_14 : decode cX1_cites 14 = .ok (.iload_n 3, 1) := by decide +kernel
theorem dX1_cites_15 : decode cX1_cites 15 = .ok (.invokevirtual 22, 3) := by decide +kernel
theorem dX1_cites_18 : decode cX1_cites 18 = .ok (.iload_n 2, 1) := by decide +kernel
theorem dX1_cites_19 : decode cX1_cites 19 = .ok (.if_icmp .ne 5, 3) := by decide +kernel
theorem dX1_cites_22 : decode cX1_cites 22 = .ok (.iconst 1, 1) := by decide +kernel
theorem dX1_cites_23 : decode cX1_cites 23 = .ok (.ireturn, 1) := by decide +kernel
theorem dX1_cites_24 : decode cX1_cites 24 = .ok (.iinc 3 1, 3) := by decide +kernel
theorem dX1_cites_27 : decode cX1_cites 27 = .ok (.goto (-25), 3) := by decide +kernel
theorem dX1_cites_30 : decode cX1_cites 30 = .ok (.iconst 0, 1) := by decide +kernel
theorem dX1_cites_31 : decode cX1_cites 31 = .ok (.ireturn, 1) := by decide +kernel
set_option maxRecDepth 20000 in
theorem ggX1_earliestCiting_X1_cites : GoodIn wsX1_earliestCiting wsX1_cites := goodIn_r _ [6, 7, 8, 9, 10, 5, 11, 12, 13, 14, 15] (by decide +kernel) (by decide +kernel)
set_option maxRecDepth 20000 in
theorem gX1_earliestCiting_X1_cites : GoodIn wsX1_earliestCiting (wsV RX1 26 RX1 yX1_cites wsX1_cites) := goodIn_app (goodIn_of _ (by decide +kernel)) ggX1_earliestCiting_X1_cites
theorem dX1_earliestCiting_0 : decode cX1_earliestCiting 0 = .ok (.iconst 0, 1) := by decide +kernel
theorem dX1_earliestCiting_1 : decode cX1_earliestCiting 1 = .ok (.istore_n 2, 1) := by decide +kernel
theorem dX1_earliestCiting_2 : decode cX1_earliestCiting 2 = .ok (.iload_n 2, 1) := by decide +kernel
theorem dX1_earliestCiting_3 : decode cX1_earliestCiting 3 = .ok (.aload_n 0, 1) := by decide +kernel
theorem dX1_earliestCiting_4 : decode cX1_earliestCiting 4 = .ok (.getfield 9, 3) := by decide +kernel
theorem dX1_earliestCiting_7 : decode cX1_earliestCiting 7 = .ok (.if_icmp .ge 18, 3) := by decide +kernel
theorem dX1_earliestCiting_10 : decode cX1_earliestCiting 10 = .ok (.aload_n 0, 1) := by decide +kernel
theorem dX1_earliestCiting_11 : decode cX1_earliestCiting 11 = .ok (.iload_n 2, 1) := by decide +kernel
theorem dX1_earliestCiting_12 : decode cX1_earliestCiting 12 = .ok (.iload_n 1, 1) := by decide +kernel
theorem dX1_earliestCiting_13 : decode cX1_earliestCiting 13 = .ok (.invokevirtual 26, 3) := by decide +kernel
theorem dX1_earliestCiting_16 : decode cX1_earliestCiting 16 = .ok (.ifCond .ne 9, 3) := by decide +kernel
theorem dX1_earliestCiting_19 : decode cX1_earliestCiting 19 = .ok (.iinc 2 1, 3) := by decide +kernel
theorem dX1_earliestCiting_22 : decode cX1_earliestCiting 22 = .ok (.goto (-20), 3) := by decide +kernel
theorem dX1_earliestCiting_25 : decode cX1_earliestCiting 25 = .ok (.iload_n 2, 1) := by decide +kernel
theorem dX1_earliestCiting_26 : decode cX1_earliestCiting 26 = .ok (.ireturn, 1) := by decide +kernel
set_option maxRecDepth 20000 in
theorem ggX1_begin_X1_add : GoodIn wsX1_begin wsX1_add := goodIn_r _ [7, 2, 8, 9, 10, 11] (by decide +kernel) (by decide +kernel)
set_option maxRecDepth 20000 in
theorem gX1_begin_X1_add : GoodIn wsX1_begin (wsV RX1 30 RX1 yX1_add wsX1_add) := goodIn_app (goodIn_of _ (by decide +kernel)) ggX1_begin_X1_add
theorem dX1_begin_0 : decode cX1_begin 0 = .ok (.aload_n 0, 1) := by decide +kernel
theorem dX1_begin_1 : decode cX1_begin 1 = .ok (.getfield 9, 3) := by decide +kernel
theorem dX1_begin_4 : decode cX1_begin 4 = .ok (.bipush 10, 2) := by decide +kernel
theorem dX1_begin_6 : decode cX1_begin 6 = .ok (.if_icmp .ge 32, 3) := by decide +kernel
theorem dX1_begin_9 : decode cX1_begin 9 = .ok (.aload_n 0, 1) := by decide +kernel
theorem dX1_begin_10 : decode cX1_begin 10 = .ok (.getfield 15, 3) := by decide +kernel
theorem dX1_begin_13 : decode cX1_begin 13 = .ok (.aload_n 0, 1) := by decide +kernel
theorem dX1_begin_14 : decode cX1_begin 14 = .ok (.getfield 9, 3) := by decide +kernel
theorem dX1_begin_17 : decode cX1_begin 17 = .ok (.iconst 0, 1) := by decide +kernel
theorem dX1_begin_18 : decode cX1_begin 18 = .ok (.iastore, 1) := by decide +kernel
theorem dX1_begin_19 : decode cX1_begin 19 = .ok (.aload_n 0, 1) := by decide +kernel
theorem dX1_begin_20 : decode cX1_begin 20 = .ok (.aload_n 0, 1) := by decide +kernel
theorem dX1_begin_21 : decode cX1_begin 21 = .ok (.getfield 9, 3) := by decide +kernel
theorem dX1_begin_24 : decode cX1_begin 24 = .ok (.iload_n 1, 1) := by decide +kernel
theorem dX1_begin_25 : decode cX1_begin 25 = .ok (.invokevirtual 30, 3) := by decide +kernel
theorem dX1_begin_28 : decode cX1_begin 28 = .ok (.aload_n 0, 1) := by decide +kernel
theorem dX1_begin_29 : decode cX1_begin 29 = .ok (.dup, 1) := by decide +kernel
theorem dX1_begin_30 : decode cX1_begin 30 = .ok (.getfield 9, 3) := by decide +kernel
theorem dX1_begin_33 : decode cX1_begin 33 = .ok (.iconst 1, 1) := by decide +kernel
theorem dX1_begin_34 : decode cX1_begin 34 = .ok (.iadd, 1) := by decide +kernel
theorem dX1_begin_35 : decode cX1_begin 35 = .ok (.putfield 9, 3) := by decide +kernel
theorem dX1_begin_38 : decode cX1_begin 38 = .ok (.return_, 1) := by decide +kernel
theorem dX1_add_0 : decode cX1_add 0 = .ok (.aload_n 0, 1) := by decide +kernel
theorem dX1_add_1 : decode cX1_add 1 = .ok (.getfield 15, 3) := by decide +kernel
theorem dX1_add_4 : decode cX1_add 4 = .ok (.iload_n 1, 1) := by decide +kernel
theorem dX1_add_5 : decode cX1_add 5 = .ok (.iaload, 1) := by decide +kernel
theorem dX1_add_6 : decode cX1_add 6 = .ok (.istore_n 3, 1) := by decide +kernel
theorem dX1_add_7 : decode cX1_add 7 = .ok (.iload_n 3, 1) := by decide +kernel
theorem dX1_add_8 : decode cX1_add 8 = .ok (.iconst 5, 1) := by decide +kernel
theorem dX1_add_9 : decode cX1_add 9 = .ok (.if_icmp .ge 23, 3) := by decide +kernel
theorem dX1_add_12 : decode cX1_add 12 = .ok (.aload_n 0, 1) := by decide +kernel
theorem dX1_add_13 : decode cX1_add 13 = .ok (.getfield 19, 3) := by decide +kernel
theorem dX1_add_16 : decode cX1_add 16 = .ok (.iload_n 1, 1) := by decide +kernel
theorem dX1_add_17 : decode cX1_add 17 = .ok (.iconst 5, 1) := by decide +kernel
theorem dX1_add_18 : decode cX1_add 18 = .ok (.imul, 1) := by decide +kernel
theorem dX1_add_19 : decode cX1_add 19 = .ok (.iload_n 3, 1) := by decide +kernel
theorem dX1_add_20 : decode cX1_add 20 = .ok (.iadd, 1) := by decide +kernel
theorem dX1_add_21 : decode cX1_add 21 = .ok (.iload_n 2, 1) := by decide +kernel
theorem dX1_add_22 : decode cX1_add 22 = .ok (.iastore, 1) := by decide +kernel
theorem dX1_add_23 : decode cX1_add 23 = .ok (.aload_n 0, 1) := by decide +kernel
theorem dX1_add_24 : decode cX1_add 24 = .ok (.getfield 15, 3) := by decide +kernel
theorem dX1_add_27 : decode cX1_add 27 = .ok (.iload_n 1, 1) := by decide +kernel
theorem dX1_add_28 : decode cX1_add 28 = .ok (.iload_n 3, 1) := by decide +kernel
theorem dX1_add_29 : decode cX1_add 29 = .ok (.iconst 1, 1) := by decide +kernel
theorem dX1_add_30 : decode cX1_add 30 = .ok (.iadd, 1) := by decide +kernel
theorem dX1_add_31 : decode cX1_add 31 = .ok (.iastore, 1) := by decide +kernel
theorem dX1_add_32 : decode cX1_add 32 = .ok (.return_, 1) := by decide +kernel
set_option maxRecDepth 20000 in
theorem ggX1_removeAt_X1_copyCitation : GoodIn wsX1_removeAt wsX1_copyCitation := goodIn_r _ [6, 7, 8, 9, 10, 11] (by decide +kernel) (by decide +kernel)
set_option maxRecDepth 20000 in
theorem gX1_removeAt_X1_copyCitation : GoodIn wsX1_removeAt (wsV RX1 34 RX1 yX1_copyCitation wsX1_copyCitation) := goodIn_app (goodIn_of _ (by decide +kernel)) ggX1_removeAt_X1_copyCitation
theorem dX1_removeAt_0 : decode cX1_removeAt 0 = .ok (.iload_n 1, 1) := by decide +kernel
theorem dX1_removeAt_1 : decode cX1_removeAt 1 = .ok (.iconst 1, 1) := by decide +kernel
theorem dX1_removeAt_2 : decode cX1_removeAt 2 = .ok (.iadd, 1) := by decide +kernel
theorem dX1_removeAt_3 : decode cX1_removeAt 3 = .ok (.istore_n 2, 1) := by decide +kernel
theorem dX1_removeAt_4 : decode cX1_removeAt 4 = .ok (.iload_n 2, 1) := by decide +kernel
theorem dX1_removeAt_5 : decode cX1_removeAt 5 = .ok (.aload_n 0, 1) := by decide +kernel
theorem dX1_removeAt_6 : decode cX1_removeAt 6 = .ok (.getfield 9, 3) := by decide +kernel
theorem dX1_removeAt_9 : decode cX1_removeAt 9 = .ok (.if_icmp .ge 18, 3) := by decide +kernel
theorem dX1_removeAt_12 : decode cX1_removeAt 12 = .ok (.aload_n 0, 1) := by decide +kernel
theorem dX1_removeAt_13 : decode cX1_removeAt 13 = .ok (.aload_n 0, 1) := by decide +kernel
theorem dX1_removeAt_14 : decode cX1_removeAt 14 = .ok (.iload_n 2, 1) := by decide +kernel
theorem dX1_removeAt_15 : decode cX1_removeAt 15 = .ok (.iload_n 2, 1) := by decide +kernel
theorem dX1_removeAt_16 : decode cX1_removeAt 16 = .ok (.iconst 1, 1) := by decide +kernel
theorem dX1_removeAt_17 : decode cX1_removeAt 17 = .ok (.isub, 1) := by decide +kernel
theorem dX1_removeAt_18 : decode cX1_removeAt 18 = .ok (.invokevirtual 34, 3) := by decide +kernel
theorem dX1_removeAt_21 : decode cX1_removeAt 21 = .ok (.iinc 2 1, 3) := by decide +kernel
theorem dX1_removeAt_24 : decode cX1_removeAt 24 = .ok (.goto (-20), 3) := by decide +kernel
theorem dX1_removeAt_27 : decode cX1_removeAt 27 = .ok (.aload_n 0, 1) := by decide +kernel
theorem dX1_removeAt_28 : decode cX1_removeAt 28 = .ok (.dup, 1) := by decide +kernel
theorem dX1_removeAt_29 : decode cX1_removeAt 29 = .ok (.getfield 9, 3) := by decide +kernel
theorem dX1_removeAt_32 : decode cX1_removeAt 32 = .ok (.iconst 1, 1) := by decide +kernel
theorem dX1_removeAt_33 : decode cX1_removeAt 33 = .ok (.isub, 1) := by decide +kernel
theorem dX1_removeAt_34 : decode cX1_removeAt 34 = .ok (.putfield 9, 3) := by decide +kernel
theorem dX1_removeAt_37 : decode cX1_removeAt 37 = .ok (.return_, 1) := by decide +kernel
set_option maxRecDepth 20000 in
theorem ggX1_copyFrom_X1_copyCitation : GoodIn wsX1_copyFrom wsX1_copyCitation := goodIn_r _ [6, 7, 8, 9, 10, 11] (by decide +kernel) (by decide +kernel)
set_option maxRecDepth 20000 in
theorem gX1_copyFrom_X1_copyCitation : GoodIn wsX1_copyFrom (wsV RX1 34 RX1 yX1_copyCitation wsX1_copyCitation) := goodIn_app (goodIn_of _ (by decide +kernel)) ggX1_copyFrom_X1_copyCitation
theorem dX1_copyFrom_0 : decode cX1_copyFrom 0 = .ok (.aload_n 0, 1) := by decide +kernel
theorem dX1_copyFrom_1 : decode cX1_copyFrom 1 = .ok (.aload_n 1, 1) := by decide +kernel
theorem dX1_copyFrom_2 : decode cX1_copyFrom 2 = .ok (.getfield 9, 3) := by decide +kernel
theorem dX1_copyFrom_5 : decode cX1_copyFrom 5 = .ok (.putfield 9, 3) := by decide +kernel
theorem dX1_copyFrom_8 : decode cX1_copyFrom 8 = .ok (.iconst 0, 1) := by decide +kernel
theorem dX1_copyFrom_9 : decode cX1_copyFrom 9 = .ok (.istore_n 2, 1) := by decide +kernel
theorem dX1_copyFrom_10 : decode cX1_copyFrom 10 = .ok (.iload_n 2, 1) := by decide +kernel
theorem dX1_copyFrom_11 : decode cX1_copyFrom 11 = .ok (.aload_n 0, 1) := by decide +kernel
theorem dX1_copyFrom_12 : decode cX1_copyFrom 12 = .ok (.getfield 9, 3) := by decide +kernel
theorem dX1_copyFrom_15 : decode cX1_copyFrom 15 = .ok (.if_icmp .ge 16, 3) := by decide +kernel
theorem dX1_copyFrom_18 : decode cX1_copyFrom 18 = .ok (.aload_n 0, 1) := by decide +kernel
theorem dX1_copyFrom_19 : decode cX1_copyFrom 19 = .ok (.aload_n 1, 1) := by decide +kernel
theorem dX1_copyFrom_20 : decode cX1_copyFrom 20 = .ok (.iload_n 2, 1) := by decide +kernel
theorem dX1_copyFrom_21 : decode cX1_copyFrom 21 = .ok (.iload_n 2, 1) := by decide +kernel
theorem dX1_copyFrom_22 : decode cX1_copyFrom 22 = .ok (.invokevirtual 34, 3) := by decide +kernel
theorem dX1_copyFrom_25 : decode cX1_copyFrom 25 = .ok (.iinc 2 1, 3) := by decide +kernel
theorem dX1_copyFrom_28 : decode cX1_copyFrom 28 = .ok (.goto (-18), 3) := by decide +kernel
theorem dX1_copyFrom_31 : decode cX1_copyFrom 31 = .ok (.return_, 1) := by decide +kernel
set_option maxRecDepth 20000 in
theorem ggX1_dropWork_X1_copyWithout : GoodIn wsX1_dropWork wsX1_copyWithout := goodIn_r _ [7, 2, 8, 9, 10, 6, 11, 12, 13, 14, 15, 16, 17, 18, 19] (by decide +kernel) (by decide +kernel)
set_option maxRecDepth 20000 in
theorem gX1_dropWork_X1_copyWithout : GoodIn wsX1_dropWork (wsV RX1 38 RX1 yX1_copyWithout wsX1_copyWithout) := goodIn_app (goodIn_of _ (by decide +kernel)) ggX1_dropWork_X1_copyWithout
theorem dX1_dropWork_0 : decode cX1_dropWork 0 = .ok (.iconst 0, 1) := by decide +kernel
theorem dX1_dropWork_1 : decode cX1_dropWork 1 = .ok (.istore_n 2, 1) := by decide +kernel
theorem dX1_dropWork_2 : decode cX1_dropWork 2 = .ok (.iconst 0, 1) := by decide +kernel
theorem dX1_dropWork_3 : decode cX1_dropWork 3 = .ok (.istore_n 3, 1) := by decide +kernel
theorem dX1_dropWork_4 : decode cX1_dropWork 4 = .ok (.iload_n 3, 1) := by decide +kernel
theorem dX1_dropWork_5 : decode cX1_dropWork 5 = .ok (.aload_n 0, 1) := by decide +kernel
theorem dX1_dropWork_6 : decode cX1_dropWork 6 = .ok (.getfield 9, 3) := by decide +kernel
theorem dX1_dropWork_9 : decode cX1_dropWork 9 = .ok (.if_icmp .ge 28, 3) := by decide +kernel
theorem dX1_dropWork_12 : decode cX1_dropWork 12 = .ok (.aload_n 0, 1) := by decide +kernel
theorem dX1_dropWork_13 : decode cX1_dropWork 13 = .ok (.iload_n 1, 1) := by decide +kernel
theorem dX1_dropWork_14 : decode cX1_dropWork 14 = .ok (.iload_n 3, 1) := by decide +kernel
theorem dX1_dropWork_15 : decode cX1_dropWork 15 = .ok (.iload_n 2, 1) := by decide +kernel
theorem dX1_dropWork_16 : decode cX1_dropWork 16 = .ok (.invokevirtual 38, 3) := by decide +kernel
theorem dX1_dropWork_19 : decode cX1_dropWork 19 = .ok (.aload_n 0, 1) := by decide +kernel
theorem dX1_dropWork_20 : decode cX1_dropWork 20 = .ok (.getfield 15, 3) := by decide +kernel
theorem dX1_dropWork_23 : decode cX1_dropWork 23 = .ok (.iload_n 2, 1) := by decide +kernel
theorem dX1_dropWork_24 : decode cX1_dropWork 24 = .ok (.iaload, 1) := by decide +kernel
theorem dX1_dropWork_25 : decode cX1_dropWork 25 = .ok (.ifCond .le 6, 3) := by decide +kernel
theorem dX1_dropWork_28 : decode cX1_dropWork 28 = .ok (.iinc 2 1, 3) := by decide +kernel
theorem dX1_dropWork_31 : decode cX1_dropWork 31 = .ok (.iinc 3 1, 3) := by decide +kernel
theorem dX1_dropWork_34 : decode cX1_dropWork 34 = .ok (.goto (-30), 3) := by decide +kernel
theorem dX1_dropWork_37 : decode cX1_dropWork 37 = .ok (.aload_n 0, 1) := by decide +kernel
theorem dX1_dropWork_38 : decode cX1_dropWork 38 = .ok (.iload_n 2, 1) := by decide +kernel
theorem dX1_dropWork_39 : decode cX1_dropWork 39 = .ok (.putfield 9, 3) := by decide +kernel
theorem dX1_dropWork_42 : decode cX1_dropWork 42 = .ok (.return_, 1) := by decide +kernel
set_option maxRecDepth 20000 in
theorem ggX1_copyWithout_X1_workAt : GoodIn wsX1_copyWithout wsX1_workAt := goodIn_r _ [6, 7, 12, 13, 14] (by decide +kernel) (by decide +kernel)
set_option maxRecDepth 20000 in
theorem gX1_copyWithout_X1_workAt : GoodIn wsX1_copyWithout (wsV RX1 22 RX1 yX1_workAt wsX1_workAt) := goodIn_app (goodIn_of _ (by decide +kernel)) ggX1_copyWithout_X1_workAt
set_option maxRecDepth 20000 in
theorem ggX1_copyWithout_X1_add : GoodIn wsX1_copyWithout wsX1_add := goodIn_r _ [11, 1, 7, 12, 13, 14] (by decide +kernel) (by decide +kernel)
set_option maxRecDepth 20000 in
theorem gX1_copyWithout_X1_add : GoodIn wsX1_copyWithout (wsV RX1 30 RX1 yX1_add wsX1_add) := goodIn_app (goodIn_of _ (by decide +kernel)) ggX1_copyWithout_X1_add
theorem dX1_copyWithout_0 : decode cX1_copyWithout 0 = .ok (.aload_n 0, 1) := by decide +kernel
theorem dX1_copyWithout_1 : decode cX1_copyWithout 1 = .ok (.getfield 15, 3) := by decide +kernel
theorem dX1_copyWithout_4 : decode cX1_copyWithout 4 = .ok (.iload_n 2, 1) := by decide +kernel
theorem dX1_copyWithout_5 : decode cX1_copyWithout 5 = .ok (.iaload, 1) := by decide +kernel
theorem dX1_copyWithout_6 : decode cX1_copyWithout 6 = .ok (.istore 4, 2) := by decide +kernel
theorem dX1_copyWithout_8 : decode cX1_copyWithout 8 = .ok (.aload_n 0, 1) := by decide +kernel
theorem dX1_copyWithout_9 : decode cX1_copyWithout 9 = .ok (.getfield 15, 3) := by decide +kernel
theorem dX1_copyWithout_12 : decode cX1_copyWithout 12 = .ok (.iload_n 3, 1) := by decide +kernel
theorem dX1_copyWithout_13 : decode cX1_copyWithout 13 = .ok (.iconst 0, 1) := by decide +kernel
theorem dX1_copyWithout_14 : decode cX1_copyWithout 14 = .ok (.iastore, 1) := by decide +kernel
theorem dX1_copyWithout_15 : decode cX1_copyWithout 15 = .ok (.iconst 0, 1) := by decide +kernel
theorem dX1_copyWithout_16 : decode cX1_copyWithout 16 = .ok (.istore 5, 2) := by decide +kernel
theorem dX1_copyWithout_18 : decode cX1_copyWithout 18 = .ok (.iload 5, 2) := by decide +kernel
theorem dX1_copyWithout_20 : decode cX1_copyWithout 20 = .ok (.iload 4, 2) := by decide +kernel
theorem dX1_copyWithout_22 : decode cX1_copyWithout 22 = .ok (.if_icmp .ge 44, 3) := by decide +kernel
theorem dX1_copyWithout_25 : decode cX1_copyWithout 25 = .ok (.aload_n 0, 1) := by decide +kernel
theorem dX1_copyWithout_26 : decode cX1_copyWithout 26 = .ok (.iload_n 2, 1) := by decide +kernel
theorem dX1_copyWithout_27 : decode cX1_copyWithout 27 = .ok (.iload 5, 2) := by decide +kernel
theorem dX1_copyWithout_29 : decode cX1_copyWithout 29 = .ok (.invokevirtual 22, 3) := by decide +kernel
theorem dX1_copyWithout_32 : decode cX1_copyWithout 32 = .ok (.istore 6, 2) := by decide +kernel
theorem dX1_copyWithout_34 : decode cX1_copyWithout 34 = .ok (.iload 6, 2) := by decide +kernel
theorem dX1_copyWithout_36 : decode cX1_copyWithout 36 = .ok (.iload_n 1, 1) := by decide +kernel
theorem dX1_copyWithout_37 : decode cX1_copyWithout 37 = .ok (.if_icmp .eq 23, 3) := by decide +kernel
theorem dX1_copyWithout_40 : decode cX1_copyWithout 40 = .ok (.aload_n 0, 1) := by decide +kernel
theorem dX1_copyWithout_41 : decode cX1_copyWithout 41 = .ok (.iload_n 3, 1) := by decide +kernel
theorem dX1_copyWithout_42 : decode cX1_copyWithout 42 = .ok (.iload 6, 2) := by decide +kernel
theorem dX1_copyWithout_44 : decode cX1_copyWithout 44 = .ok (.iload_n 1, 1) := by decide +kernel
theorem dX1_copyWithout_45 : decode cX1_copyWithout 45 = .ok (.if_icmp .le 10, 3) := by decide +kernel
theorem dX1_copyWithout_48 : decode cX1_copyWithout 48 = .ok (.iload 6, 2) := by decide +kernel
theorem dX1_copyWithout_50 : decode cX1_copyWithout 50 = .ok (.iconst 1, 1) := by decide +kernel
theorem dX1_copyWithout_51 : decode cX1_copyWithout 51 = .ok (.isub, 1) := by decide +kernel
theorem dX1_copyWithout_52 : decode cX1_copyWithout 52 = .ok (.goto 5, 3) := by decide +kernel
theorem dX1_copyWithout_55 : decode cX1_copyWithout 55 = .ok (.iload 6, 2) := by decide +kernel
theorem dX1_copyWithout_57 : decode cX1_copyWithout 57 = .ok (.invokevirtual 30, 3) := by decide +kernel
theorem dX1_copyWithout_60 : decode cX1_copyWithout 60 = .ok (.iinc 5 1, 3) := by decide +kernel
theorem dX1_copyWithout_63 : decode cX1_copyWithout 63 = .ok (.goto (-45), 3) := by decide +kernel
theorem dX1_copyWithout_66 : decode cX1_copyWithout 66 = .ok (.return_, 1) := by decide +kernel
theorem dX1_copyCitation_0 : decode cX1_copyCitation 0 = .ok (.aload_n 0, 1) := by decide +kernel
theorem dX1_copyCitation_1 : decode cX1_copyCitation 1 = .ok (.getfield 15, 3) := by decide +kernel
theorem dX1_copyCitation_4 : decode cX1_copyCitation 4 = .ok (.iload_n 3, 1) := by decide +kernel
theorem dX1_copyCitation_5 : decode cX1_copyCitation 5 = .ok (.aload_n 1, 1) := by decide +kernel
theorem dX1_copyCitation_6 : decode cX1_copyCitation 6 = .ok (.getfield 15, 3) := by decide +kernel
theorem dX1_copyCitation_9 : decode cX1_copyCitation 9 = .ok (.iload_n 2, 1) := by decide +kernel
theorem dX1_copyCitation_10 : decode cX1_copyCitation 10 = .ok (.iaload, 1) := by decide +kernel
theorem dX1_copyCitation_11 : decode cX1_copyCitation 11 = .ok (.iastore, 1) := by decide +kernel
theorem dX1_copyCitation_12 : decode cX1_copyCitation 12 = .ok (.iconst 0, 1) := by decide +kernel
theorem dX1_copyCitation_13 : decode cX1_copyCitation 13 = .ok (.istore 4, 2) := by decide +kernel
theorem dX1_copyCitation_15 : decode cX1_copyCitation 15 = .ok (.iload 4, 2) := by decide +kernel
theorem dX1_copyCitation_17 : decode cX1_copyCitation 17 = .ok (.iconst 5, 1) := by decide +kernel
theorem dX1_copyCitation_18 : decode cX1_copyCitation 18 = .ok (.if_icmp .ge 31, 3) := by decide +kernel
theorem dX1_copyCitation_21 : decode cX1_copyCitation 21 = .ok (.aload_n 0, 1) := by decide +kernel
theorem dX1_copyCitation_22 : decode cX1_copyCitation 22 = .ok (.getfield 19, 3) := by decide +kernel
theorem dX1_copyCitation_25 : decode cX1_copyCitation 25 = .ok (.iload_n 3, 1) := by decide +kernel
theorem dX1_copyCitation_26 : decode cX1_copyCitation 26 = .ok (.iconst 5, 1) := by decide +kernel
theorem dX1_copyCitation_27 : decode cX1_copyCitation 27 = .ok (.imul, 1) := by decide +kernel
theorem dX1_copyCitation_28 : decode cX1_copyCitation 28 = .ok (.iload 4, 2) := by decide +kernel
theorem dX1_copyCitation_30 : decode cX1_copyCitation 30 = .ok (.iadd, 1) := by decide +kernel
theorem dX1_copyCitation_31 : decode cX1_copyCitation 31 = .ok (.aload_n 1, 1) := by decide +kernel
theorem dX1_copyCitation_32 : decode cX1_copyCitation 32 = .ok (.getfield 19, 3) := by decide +kernel
theorem dX1_copyCitation_35 : decode cX1_copyCitation 35 = .ok (.iload_n 2, 1) := by decide +kernel
theorem dX1_copyCitation_36 : decode cX1_copyCitation 36 = .ok (.iconst 5, 1) := by decide +kernel
theorem dX1_copyCitation_37 : decode cX1_copyCitation 37 = .ok (.imul, 1) := by decide +kernel
theorem dX1_copyCitation_38 : decode cX1_copyCitation 38 = .ok (.iload 4, 2) := by decide +kernel
theorem dX1_copyCitation_40 : decode cX1_copyCitation 40 = .ok (.iadd, 1) := by decide +kernel
theorem dX1_copyCitation_41 : decode cX1_copyCitation 41 = .ok (.iaload, 1) := by decide +kernel
theorem dX1_copyCitation_42 : decode cX1_copyCitation 42 = .ok (.iastore, 1) := by decide +kernel
theorem dX1_copyCitation_43 : decode cX1_copyCitation 43 = .ok (.iinc 4 1, 3) := by decide +kernel
theorem dX1_copyCitation_46 : decode cX1_copyCitation 46 = .ok (.goto (-31), 3) := by decide +kernel
theorem dX1_copyCitation_49 : decode cX1_copyCitation 49 = .ok (.return_, 1) := by decide +kernel
set_option maxRecDepth 20000 in
theorem ggX2_init_X7_init : GoodIn wsX2_init wsX7_init := goodIn_r _ [12, 13, 2, 3, 14, 15, 16, 17, 18, 19, 20, 21, 22, 23, 24, 25, 26, 27, 28, 29, 30, 31, 32, 33, 34, 35, 36, 37, 38, 39, 40, 41, 42, 43, 44, 45, 46, 47, 48, 49, 50, 51, 52, 53, 61, 62, 63, 64, 65, 66, 58, 59, 60, 67, 68, 69, 70, 71, 72, 73, 74, 75, 76, 77, 78] (by decide +kernel) (by decide +kernel)
set_option maxRecDepth 20000 in
theorem gX2_init_X7_init_n28 : GoodIn wsX2_init (wsX7_init) := ggX2_init_X7_init
theorem dX2_init_0 : decode cX2_init 0 = .ok (.aload_n 0, 1) := by decide +kernel
theorem dX2_init_1 : decode cX2_init 1 = .ok (.invokespecial 3, 3) := by decide +kernel
theorem dX2_init_4 : decode cX2_init 4 = .ok (.aload_n 0, 1) := by decide +kernel
theorem dX2_init_5 : decode cX2_init 5 = .ok (.iconst 0, 1) := by decide +kernel
theorem dX2_init_6 : decode cX2_init 6 = .ok (.putfield 9, 3) := by decide +kernel
theorem dX2_init_9 : decode cX2_init 9 = .ok (.aload_n 0, 1) := by decide +kernel
theorem dX2_init_10 : decode cX2_init 10 = .ok (.bipush 8, 2) := by decide +kernel
theorem dX2_init_12 : decode cX2_init 12 = .ok (.anewarray 15, 3) := by decide +kernel
theorem dX2_init_15 : decode cX2_init 15 = .ok (.putfield 17, 3) := by decide +kernel
theorem dX2_init_18 : decode cX2_init 18 = .ok (.aload_n 0, 1) := by decide +kernel
theorem dX2_init_19 : decode cX2_init 19 = .ok (.iconst 0, 1) := by decide +kernel
theorem dX2_init_20 : decode cX2_init 20 = .ok (.putfield 21, 3) := by decide +kernel
theorem dX2_init_23 : decode cX2_init 23 = .ok (.aload_n 0, 1) := by decide +kernel
theorem dX2_init_24 : decode cX2_init 24 = .ok (.aload_n 1, 1) := by decide +kernel
theorem dX2_init_25 : decode cX2_init 25 = .ok (.putfield 24, 3) := by decide +kernel
theorem dX2_init_28 : decode cX2_init 28 = .ok (.iconst 0, 1) := by decide +kernel
theorem dX2_init_29 : decode cX2_init 29 = .ok (.istore_n 2, 1) := by decide +kernel
theorem dX2_init_30 : decode cX2_init 30 = .ok (.iload_n 2, 1) := by decide +kernel
theorem dX2_init_31 : decode cX2_init 31 = .ok (.bipush 8, 2) := by decide +kernel
theorem dX2_init_33 : decode cX2_init 33 = .ok (.if_icmp .ge 22, 3) := by decide +kernel
theorem dX2_init_36 : decode cX2_init 36 = .ok (.aload_n 0, 1) := by decide +kernel
theorem dX2_init_37 : decode cX2_init 37 = .ok (.getfield 17, 3) := by decide +kernel
theorem dX2_init_40 : decode cX2_init 40 = .ok (.iload_n 2, 1) := by decide +kernel
theorem dX2_init_41 : decode cX2_init 41 = .ok (.new 15, 3) := by decide +kernel
theorem dX2_init_44 : decode cX2_init 44 = .ok (.dup, 1) := by decide +kernel
theorem dX2_init_45 : decode cX2_init 45 = .ok (.invokespecial 28, 3) := by decide +kernel
theorem dX2_init_48 : decode cX2_init 48 = .ok (.aastore, 1) := by decide +kernel
theorem dX2_init_49 : decode cX2_init 49 = .ok (.iinc 2 1, 3) := by decide +kernel
theorem dX2_init_52 : decode cX2_init 52 = .ok (.goto (-22), 3) := by decide +kernel
theorem dX2_init_55 : decode cX2_init 55 = .ok (.return_, 1) := by decide +kernel
set_option maxRecDepth 20000 in
theorem ggX2_save_X7_copyFrom : GoodIn wsX2_save wsX7_copyFrom := goodIn_r _ [13, 14, 15, 16, 17, 18, 19, 20, 21, 22, 23, 24, 25, 26, 27, 28, 29, 30, 31, 32, 33, 34, 35, 36, 37, 38, 39, 40, 41, 42, 43, 44, 45, 46, 47, 48, 49, 50, 51, 52, 53, 54, 55, 56, 57, 62, 63, 64, 65, 66, 67, 68, 69, 70, 71, 72, 73, 74, 75, 76, 77, 78, 79, 80, 81, 82] (by decide +kernel) (by decide +kernel)
set_option maxRecDepth 20000 in
theorem gX2_save_X7_copyFrom : GoodIn wsX2_save (wsV RX2 29 RX7 yX7_copyFrom wsX7_copyFrom) := goodIn_app (goodIn_of _ (by decide +kernel)) ggX2_save_X7_copyFrom
theorem dX2_save_0 : decode cX2_save 0 = .ok (.aload_n 0, 1) := by decide +kernel
theorem dX2_save_1 : decode cX2_save 1 = .ok (.getfield 17, 3) := by decide +kernel
theorem dX2_save_4 : decode cX2_save 4 = .ok (.aload_n 0, 1) := by decide +kernel
theorem dX2_save_5 : decode cX2_save 5 = .ok (.getfield 21, 3) := by decide +kernel
theorem dX2_save_8 : decode cX2_save 8 = .ok (.aaload, 1) := by decide +kernel
theorem dX2_save_9 : decode cX2_save 9 = .ok (.aload_n 0, 1) := by decide +kernel
theorem dX2_save_10 : decode cX2_save 10 = .ok (.getfield 24, 3) := by decide +kernel
theorem dX2_save_13 : decode cX2_save 13 = .ok (.invokevirtual 29, 3) := by decide +kernel
theorem dX2_save_16 : decode cX2_save 16 = .ok (.aload_n 0, 1) := by decide +kernel
theorem dX2_save_17 : decode cX2_save 17 = .ok (.aload_n 0, 1) := by decide +kernel
theorem dX2_save_18 : decode cX2_save 18 = .ok (.getfield 21, 3) := by decide +kernel
theorem dX2_save_21 : decode cX2_save 21 = .ok (.iconst 1, 1) := by decide +kernel
theorem dX2_save_22 : decode cX2_save 22 = .ok (.iadd, 1) := by decide +kernel
theorem dX2_save_23 : decode cX2_save 23 = .ok (.bipush 8, 2) := by decide +kernel
theorem dX2_save_25 : decode cX2_save 25 = .ok (.irem, 1) := by decide +kernel
theorem dX2_save_26 : decode cX2_save 26 = .ok (.putfield 21, 3) := by decide +kernel
theorem dX2_save_29 : decode cX2_save 29 = .ok (.aload_n 0, 1) := by decide +kernel
theorem dX2_save_30 : decode cX2_save 30 = .ok (.aload_n 0, 1) := by decide +kernel
theorem dX2_save_31 : decode cX2_save 31 = .ok (.getfield 9, 3) := by decide +kernel
theorem dX2_save_34 : decode cX2_save 34 = .ok (.iconst 1, 1) := by decide +kernel
theorem dX2_save_35 : decode cX2_save 35 = .ok (.iadd, 1) := by decide +kernel
theorem dX2_save_36 : decode cX2_save 36 = .ok (.bipush 8, 2) := by decide +kernel
theorem dX2_save_38 : decode cX2_save 38 = .ok (.invokestatic 33, 3) := by decide +kernel
theorem dX2_save_41 : decode cX2_save 41 = .ok (.putfield 9, 3) := by decide +kernel
theorem dX2_save_44 : decode cX2_save 44 = .ok (.return_, 1) := by decide +kernel
set_option maxRecDepth 20000 in
theorem ggX2_restore_X7_copyFrom : GoodIn wsX2_restore wsX7_copyFrom := goodIn_r _ [9, 10, 11, 12, 13, 14, 15, 16, 17, 18, 19, 20, 21, 22, 23, 24, 25, 26, 27, 28, 29, 30, 31, 32, 33, 34, 35, 36, 37, 38, 39, 40, 41, 42, 43, 44, 45, 46, 47, 48, 49, 50, 51, 52, 53, 58, 59, 60, 61, 62, 63, 64, 65, 66, 67, 68, 69, 70, 71, 72, 73, 74, 75, 76, 77, 78] (by decide +kernel) (by decide +kernel)
set_option maxRecDepth 20000 in
theorem gX2_restore_X7_copyFrom : GoodIn wsX2_restore (wsV RX2 29 RX7 yX7_copyFrom wsX7_copyFrom) := goodIn_app (goodIn_of _ (by decide +kernel)) ggX2_restore_X7_copyFrom
theorem dX2_restore_0 : decode cX2_restore 0 = .ok (.aload_n 0, 1) := by decide +kernel
theorem dX2_restore_1 : decode cX2_restore 1 = .ok (.aload_n 0, 1) := by decide +kernel
theorem dX2_restore_2 : decode cX2_restore 2 = .ok (.getfield 21, 3) := by decide +kernel
theorem dX2_restore_5 : decode cX2_restore 5 = .ok (.bipush 8, 2) := by decide +kernel
theorem dX2_restore_7 : decode cX2_restore 7 = .ok (.iadd, 1) := by decide +kernel
theorem dX2_restore_8 : decode cX2_restore 8 = .ok (.iconst 1, 1) := by decide +kernel
theorem dX2_restore_9 : decode cX2_restore 9 = .ok (.isub, 1) := by decide +kernel
theorem dX2_restore_10 : decode cX2_restore 10 = .ok (.bipush 8, 2) := by decide +kernel
theorem dX2_restore_12 : decode cX2_restore 12 = .ok (.irem, 1) := by decide +kernel
theorem dX2_restore_13 : decode cX2_restore 13 = .ok (.putfield 21, 3) := by decide +kernel
theorem dX2_restore_16 : decode cX2_restore 16 = .ok (.aload_n 0, 1) := by decide +kernel
theorem dX2_restore_17 : decode cX2_restore 17 = .ok (.getfield 24, 3) := by decide +kernel
theorem dX2_restore_20 : decode cX2_restore 20 = .ok (.aload_n 0, 1) := by decide +kernel
theorem dX2_restore_21 : decode cX2_restore 21 = .ok (.getfield 17, 3) := by decide +kernel
theorem dX2_restore_24 : decode cX2_restore 24 = .ok (.aload_n 0, 1) := by decide +kernel
theorem dX2_restore_25 : decode cX2_restore 25 = .ok (.getfield 21, 3) := by decide +kernel
theorem dX2_restore_28 : decode cX2_restore 28 = .ok (.aaload, 1) := by decide +kernel
theorem dX2_restore_29 : decode cX2_restore 29 = .ok (.invokevirtual 29, 3) := by decide +kernel
theorem dX2_restore_32 : decode cX2_restore 32 = .ok (.aload_n 0, 1) := by decide +kernel
theorem dX2_restore_33 : decode cX2_restore 33 = .ok (.dup, 1) := by decide +kernel
theorem dX2_restore_34 : decode cX2_restore 34 = .ok (.getfield 9, 3) := by decide +kernel
theorem dX2_restore_37 : decode cX2_restore 37 = .ok (.iconst 1, 1) := by decide +kernel
theorem dX2_restore_38 : decode cX2_restore 38 = .ok (.isub, 1) := by decide +kernel
theorem dX2_restore_39 : decode cX2_restore 39 = .ok (.putfield 9, 3) := by decide +kernel
theorem dX2_restore_42 : decode cX2_restore 42 = .ok (.return_, 1) := by decide +kernel
theorem dX3_init_0 : decode cX3_init 0 = .ok (.aload_n 0, 1) := by decide +kernel
theorem dX3_init_1 : decode cX3_init 1 = .ok (.invokespecial 3, 3) := by decide +kernel
theorem dX3_init_4 : decode cX3_init 4 = .ok (.aload_n 0, 1) := by decide +kernel
theorem dX3_init_5 : decode cX3_init 5 = .ok (.bipush 8, 2) := by decide +kernel
theorem dX3_init_7 : decode cX3_init 7 = .ok (.newarray .int, 2) := by decide +kernel
theorem dX3_init_9 : decode cX3_init 9 = .ok (.putfield 9, 3) := by decide +kernel
theorem dX3_init_12 : decode cX3_init 12 = .ok (.aload_n 0, 1) := by decide +kernel
theorem dX3_init_13 : decode cX3_init 13 = .ok (.bipush 8, 2) := by decide +kernel
theorem dX3_init_15 : decode cX3_init 15 = .ok (.newarray .boolean, 2) := by decide +kernel
theorem dX3_init_17 : decode cX3_init 17 = .ok (.putfield 15, 3) := by decide +kernel
theorem dX3_init_20 : decode cX3_init 20 = .ok (.aload_n 0, 1) := by decide +kernel
theorem dX3_init_21 : decode cX3_init 21 = .ok (.bipush 8, 2) := by decide +kernel
theorem dX3_init_23 : decode cX3_init 23 = .ok (.newarray .int, 2) := by decide +kernel
theorem dX3_init_25 : decode cX3_init 25 = .ok (.putfield 19, 3) := by decide +kernel
theorem dX3_init_28 : decode cX3_init 28 = .ok (.aload_n 0, 1) := by decide +kernel
theorem dX3_init_29 : decode cX3_init 29 = .ok (.bipush 8, 2) := by decide +kernel
theorem dX3_init_31 : decode cX3_init 31 = .ok (.newarray .long, 2) := by decide +kernel
theorem dX3_init_33 : decode cX3_init 33 = .ok (.putfield 22, 3) := by decide +kernel
theorem dX3_init_36 : decode cX3_init 36 = .ok (.aload_n 0, 1) := by decide +kernel
theorem dX3_init_37 : decode cX3_init 37 = .ok (.bipush 8, 2) := by decide +kernel
theorem dX3_init_39 : decode cX3_init 39 = .ok (.newarray .int, 2) := by decide +kernel
theorem dX3_init_41 : decode cX3_init 41 = .ok (.putfield 26, 3) := by decide +kernel
theorem dX3_init_44 : decode cX3_init 44 = .ok (.aload_n 0, 1) := by decide +kernel
theorem dX3_init_45 : decode cX3_init 45 = .ok (.aload_n 1, 1) := by decide +kernel
theorem dX3_init_46 : decode cX3_init 46 = .ok (.getfield 29, 3) := by decide +kernel
theorem dX3_init_49 : decode cX3_init 49 = .ok (.putfield 35, 3) := by decide +kernel
theorem dX3_init_52 : decode cX3_init 52 = .ok (.aload_n 0, 1) := by decide +kernel
theorem dX3_init_53 : decode cX3_init 53 = .ok (.aload_n 1, 1) := by decide +kernel
theorem dX3_init_54 : decode cX3_init 54 = .ok (.getfield 36, 3) := by decide +kernel
theorem dX3_init_57 : decode cX3_init 57 = .ok (.putfield 40, 3) := by decide +kernel
theorem dX3_init_60 : decode cX3_init 60 = .ok (.aload_n 0, 1) := by decide +kernel
theorem dX3_init_61 : decode cX3_init 61 = .ok (.aload_n 2, 1) := by decide +kernel
theorem dX3_init_62 : decode cX3_init 62 = .ok (.putfield 41, 3) := by decide +kernel
theorem dX3_init_65 : decode cX3_init 65 = .ok (.return_, 1) := by decide +kernel
set_option maxRecDepth 20000 in
theorem ggX3_update_X0_update : GoodIn wsX3_update wsX0_update := goodIn_r _ [11, 12, 13, 14, 15, 16, 17, 18, 19, 20, 21, 10, 22, 23, 24, 25, 26, 27, 28, 29, 30, 31, 32, 33, 34, 35, 36, 37, 38, 39, 40, 41, 42, 43, 44, 45, 46, 47, 48, 49, 50, 51, 52, 53, 54, 55, 56, 57, 58, 59, 60, 160, 161, 162, 163, 164, 165, 145, 146, 147, 148, 149, 150, 151, 152, 153, 154, 155, 156, 157, 158, 159, 166, 167, 168] (by decide +kernel) (by decide +kernel)
set_option maxRecDepth 20000 in
theorem gX3_update_X0_update : GoodIn wsX3_update (wsV RX3 45 RX0 yX0_update wsX0_update) := goodIn_app (goodIn_of _ (by decide +kernel)) ggX3_update_X0_update
set_option maxRecDepth 20000 in
theorem ggX3_update_X3_initiallyShown : GoodIn wsX3_update wsX3_initiallyShown := goodIn_r _ [65, 2, 66, 5, 67, 68, 69, 70, 71, 72, 137, 138, 139, 140, 141, 142, 143, 144, 145, 146, 147, 148, 149, 150, 151, 152, 153, 154, 155, 156, 157, 158, 159] (by decide +kernel) (by decide +kernel)
set_option maxRecDepth 20000 in
theorem gX3_update_X3_initiallyShown : GoodIn wsX3_update (wsV RX3 56 RX3 yX3_initiallyShown wsX3_initiallyShown) := goodIn_app (goodIn_of _ (by decide +kernel)) ggX3_update_X3_initiallyShown
set_option maxRecDepth 20000 in
theorem ggX3_update_X3_show : GoodIn wsX3_update wsX3_show := goodIn_r _ [76, 77, 78, 2, 79, 80, 81, 82, 83, 84, 64, 85, 66, 137, 138, 139, 140, 141, 142, 143, 144, 145, 146, 147, 148, 149, 150] (by decide +kernel) (by decide +kernel)
set_option maxRecDepth 20000 in
theorem gX3_update_X3_show : GoodIn wsX3_update (wsV RX3 60 RX3 yX3_show wsX3_show) := goodIn_app (goodIn_of _ (by decide +kernel)) ggX3_update_X3_show
set_option maxRecDepth 20000 in
theorem ggX3_update_X3_perform : GoodIn wsX3_update wsX3_perform := goodIn_r _ [89, 2, 3, 90, 91, 92, 93, 64, 94, 95, 4, 96, 97, 98, 99, 81, 100, 101, 102, 103, 104, 105, 106, 107, 108, 109, 110, 5, 68, 111, 112, 113, 114, 66, 69, 70, 71, 72, 115, 116, 117, 78, 118, 119, 61, 62, 63, 65, 67, 73, 74, 75, 76, 77, 79, 80, 82, 83, 84, 85, 120, 121, 122, 123, 124, 125, 126, 127, 128, 129, 130, 131, 132, 133, 134, 135, 1, 136, 137, 138, 139, 140, 141, 142, 143, 144, 145, 146, 147, 148, 149, 150, 151, 152, 153, 154, 155, 156, 157, 158, 159, 160, 161, 162, 163, 164, 165] (by decide +kernel) (by decide +kernel)
set_option maxRecDepth 20000 in
theorem gX3_update_X3_perform : GoodIn wsX3_update (wsV RX3 69 RX3 yX3_perform wsX3_perform) := goodIn_app (goodIn_of _ (by decide +kernel)) ggX3_update_X3_perform
theorem dX3_update_0 : decode cX3_update 0 = .ok (.aload_n 0, 1) := by decide +kernel
theorem dX3_update_1 : decode cX3_update 1 = .ok (.getfield 41, 3) := by decide +kernel
theorem dX3_update_4 : decode cX3_update 4 = .ok (.invokevirtual 45, 3) := by decide +kernel
theorem dX3_update_7 : decode cX3_update 7 = .ok (.iconst 0, 1) := by decide +kernel
theorem dX3_update_8 : decode cX3_update 8 = .ok (.istore_n 1, 1) := by decide +kernel
theorem dX3_update_9 : decode cX3_update 9 = .ok (.iload_n 1, 1) := by decide +kernel
theorem dX3_update_10 : decode cX3_update 10 = .ok (.aload_n 0, 1) := by decide +kernel
theorem dX3_update_11 : decode cX3_update 11 = .ok (.getfield 35, 3) := by decide +kernel
theorem dX3_update_14 : decode cX3_update 14 = .ok (.getfield 50, 3) := by decide +kernel
theorem dX3_update_17 : decode cX3_update 17 = .ok (.if_icmp .ge 27, 3) := by decide +kernel
theorem dX3_update_20 : decode cX3_update 20 = .ok (.aload_n 0, 1) := by decide +kernel
theorem dX3_update_21 : decode cX3_update 21 = .ok (.iload_n 1, 1) := by decide +kernel
theorem dX3_update_22 : decode cX3_update 22 = .ok (.aload_n 0, 1) := by decide +kernel
theorem dX3_update_23 : decode cX3_update 23 = .ok (.iload_n 1, 1) := by decide +kernel
theorem dX3_update_24 : decode cX3_update 24 = .ok (.invokevirtual 56, 3) := by decide +kernel
theorem dX3_update_27 : decode cX3_update 27 = .ok (.iconst 0, 1) := by decide +kernel
theorem dX3_update_28 : decode cX3_update 28 = .ok (.invokevirtual 60, 3) := by decide +kernel
theorem dX3_update_31 : decode cX3_update 31 = .ok (.aload_n 0, 1) := by decide +kernel
theorem dX3_update_32 : decode cX3_update 32 = .ok (.getfield 19, 3) := by decide +kernel
theorem dX3_update_35 : decode cX3_update 35 = .ok (.iload_n 1, 1) := by decide +kernel
theorem dX3_update_36 : decode cX3_update 36 = .ok (.iconst 0, 1) := by decide +kernel
theorem dX3_update_37 : decode cX3_update 37 = .ok (.iastore, 1) := by decide +kernel
theorem dX3_update_38 : decode cX3_update 38 = .ok (.iinc 1 1, 3) := by decide +kernel
theorem dX3_update_41 : decode cX3_update 41 = .ok (.goto (-32), 3) := by decide +kernel
theorem dX3_update_44 : decode cX3_update 44 = .ok (.iconst 1, 1) := by decide +kernel
theorem dX3_update_45 : decode cX3_update 45 = .ok (.istore_n 1, 1) := by decide +kernel
theorem dX3_update_46 : decode cX3_update 46 = .ok (.iload_n 1, 1) := by decide +kernel
theorem dX3_update_47 : decode cX3_update 47 = .ok (.iconst 4, 1) := by decide +kernel
theorem dX3_update_48 : decode cX3_update 48 = .ok (.if_icmp .gt 27, 3) := by decide +kernel
theorem dX3_update_51 : decode cX3_update 51 = .ok (.aload_n 0, 1) := by decide +kernel
theorem dX3_update_52 : decode cX3_update 52 = .ok (.getfield 40, 3) := by decide +kernel
theorem dX3_update_55 : decode cX3_update 55 = .ok (.getfield 64, 3) := by decide +kernel
theorem dX3_update_58 : decode cX3_update 58 = .ok (.iload_n 1, 1) := by decide +kernel
theorem dX3_update_59 : decode cX3_update 59 = .ok (.iand, 1) := by decide +kernel
theorem dX3_update_60 : decode cX3_update 60 = .ok (.ifCond .eq 8, 3) := by decide +kernel
theorem dX3_update_63 : decode cX3_update 63 = .ok (.aload_n 0, 1) := by decide +kernel
theorem dX3_update_64 : decode cX3_update 64 = .ok (.iload_n 1, 1) := by decide +kernel
theorem dX3_update_65 : decode cX3_update 65 = .ok (.invokevirtual 69, 3) := by decide +kernel
theorem dX3_update_68 : decode cX3_update 68 = .ok (.iload_n 1, 1) := by decide +kernel
theorem dX3_update_69 : decode cX3_update 69 = .ok (.iconst 2, 1) := by decide +kernel
theorem dX3_update_70 : decode cX3_update 70 = .ok (.imul, 1) := by decide +kernel
theorem dX3_update_71 : decode cX3_update 71 = .ok (.istore_n 1, 1) := by decide +kernel
theorem dX3_update_72 : decode cX3_update 72 = .ok (.goto (-26), 3) := by decide +kernel
theorem dX3_update_75 : decode cX3_update 75 = .ok (.return_, 1) := by decide +kernel
theorem dX3_hidesAuthors_0 : decode cX3_hidesAuthors 0 = .ok (.aload_n 0, 1) := by decide +kernel
theorem dX3_hidesAuthors_1 : decode cX3_hidesAuthors 1 = .ok (.getfield 9, 3) := by decide +kernel
theorem dX3_hidesAuthors_4 : decode cX3_hidesAuthors 4 = .ok (.iload_n 1, 1) := by decide +kernel
theorem dX3_hidesAuthors_5 : decode cX3_hidesAuthors 5 = .ok (.iaload, 1) := by decide +kernel
theorem dX3_hidesAuthors_6 : decode cX3_hidesAuthors 6 = .ok (.aload_n 0, 1) := by decide +kernel
theorem dX3_hidesAuthors_7 : decode cX3_hidesAuthors 7 = .ok (.getfield 35, 3) := by decide +kernel
theorem dX3_hidesAuthors_10 : decode cX3_hidesAuthors 10 = .ok (.getfield 73, 3) := by decide +kernel
theorem dX3_hidesAuthors_13 : decode cX3_hidesAuthors 13 = .ok (.iload_n 1, 1) := by decide +kernel
theorem dX3_hidesAuthors_14 : decode cX3_hidesAuthors 14 = .ok (.iaload, 1) := by decide +kernel
theorem dX3_hidesAuthors_15 : decode cX3_hidesAuthors 15 = .ok (.if_icmp .ge 7, 3) := by decide +kernel
theorem dX3_hidesAuthors_18 : decode cX3_hidesAuthors 18 = .ok (.iconst 1, 1) := by decide +kernel
theorem dX3_hidesAuthors_19 : decode cX3_hidesAuthors 19 = .ok (.goto 4, 3) := by decide +kernel
theorem dX3_hidesAuthors_22 : decode cX3_hidesAuthors 22 = .ok (.iconst 0, 1) := by decide +kernel
theorem dX3_hidesAuthors_23 : decode cX3_hidesAuthors 23 = .ok (.ireturn, 1) := by decide +kernel
theorem dX3_sameNames_0 : decode cX3_sameNames 0 = .ok (.aload_n 0, 1) := by decide +kernel
theorem dX3_sameNames_1 : decode cX3_sameNames 1 = .ok (.getfield 22, 3) := by decide +kernel
theorem dX3_sameNames_4 : decode cX3_sameNames 4 = .ok (.iload_n 1, 1) := by decide +kernel
theorem dX3_sameNames_5 : decode cX3_sameNames 5 = .ok (.laload, 1) := by decide +kernel
theorem dX3_sameNames_6 : decode cX3_sameNames 6 = .ok (.aload_n 0, 1) := by decide +kernel
theorem dX3_sameNames_7 : decode cX3_sameNames 7 = .ok (.getfield 22, 3) := by decide +kernel
theorem dX3_sameNames_10 : decode cX3_sameNames 10 = .ok (.iload_n 2, 1) := by decide +kernel
theorem dX3_sameNames_11 : decode cX3_sameNames 11 = .ok (.laload, 1) := by decide +kernel
theorem dX3_sameNames_12 : decode cX3_sameNames 12 = .ok (.lcmp, 1) := by decide +kernel
theorem dX3_sameNames_13 : decode cX3_sameNames 13 = .ok (.ifCond .ne 7, 3) := by decide +kernel
theorem dX3_sameNames_16 : decode cX3_sameNames 16 = .ok (.iconst 1, 1) := by decide +kernel
theorem dX3_sameNames_17 : decode cX3_sameNames 17 = .ok (.goto 4, 3) := by decide +kernel
theorem dX3_sameNames_20 : decode cX3_sameNames 20 = .ok (.iconst 0, 1) := by decide +kernel
theorem dX3_sameNames_21 : decode cX3_sameNames 21 = .ok (.ireturn, 1) := by decide +kernel
set_option maxRecDepth 20000 in
theorem ggX3_worksLabelledLike_X3_sameNames : GoodIn wsX3_worksLabelledLike wsX3_sameNames := goodIn_r _ [9, 10, 11, 12, 13, 14, 15, 16, 17, 18] (by decide +kernel) (by decide +kernel)
set_option maxRecDepth 20000 in
theorem gX3_worksLabelledLike_X3_sameNames : GoodIn wsX3_worksLabelledLike (wsV RX3 76 RX3 yX3_sameNames wsX3_sameNames) := goodIn_app (goodIn_of _ (by decide +kernel)) ggX3_worksLabelledLike_X3_sameNames
theorem dX3_worksLabelledLike_0 : decode cX3_worksLabelledLike 0 = .ok (.iconst 0, 1) := by decide +kernel
theorem dX3_worksLabelledLike_1 : decode cX3_worksLabelledLike 1 = .ok (.istore_n 2, 1) := by decide +kernel
theorem dX3_worksLabelledLike_2 : decode cX3_worksLabelledLike 2 = .ok (.iconst 0, 1) := by decide +kernel
theorem dX3_worksLabelledLike_3 : decode cX3_worksLabelledLike 3 = .ok (.istore_n 3, 1) := by decide +kernel
theorem dX3_worksLabelledLike_4 : decode cX3_worksLabelledLike 4 = .ok (.iload_n 3, 1) := by decide +kernel
theorem dX3_worksLabelledLike_5 : decode cX3_worksLabelledLike 5 = .ok (.aload_n 0, 1) := by decide +kernel
theorem dX3_worksLabelledLike_6 : decode cX3_worksLabelledLike 6 = .ok (.getfield 35, 3) := by decide +kernel
theorem dX3_worksLabelledLike_9 : decode cX3_worksLabelledLike 9 = .ok (.getfield 50, 3) := by decide +kernel
theorem dX3_worksLabelledLike_12 : decode cX3_worksLabelledLike 12 = .ok (.if_icmp .ge 60, 3) := by decide +kernel
theorem dX3_worksLabelledLike_15 : decode cX3_worksLabelledLike 15 = .ok (.aload_n 0, 1) := by decide +kernel
theorem dX3_worksLabelledLike_16 : decode cX3_worksLabelledLike 16 = .ok (.iload_n 1, 1) := by decide +kernel
theorem dX3_worksLabelledLike_17 : decode cX3_worksLabelledLike 17 = .ok (.iload_n 3, 1) := by decide +kernel
theorem dX3_worksLabelledLike_18 : decode cX3_worksLabelledLike 18 = .ok (.invokevirtual 76, 3) := by decide +kernel
theorem dX3_worksLabelledLike_21 : decode cX3_worksLabelledLike 21 = .ok (.ifCond .eq 45, 3) := by decide +kernel
theorem dX3_worksLabelledLike_24 : decode cX3_worksLabelledLike 24 = .ok (.aload_n 0, 1) := by decide +kernel
theorem dX3_worksLabelledLike_25 : decode cX3_worksLabelledLike 25 = .ok (.getfield 35, 3) := by decide +kernel
theorem dX3_worksLabelledLike_28 : decode cX3_worksLabelledLike 28 = .ok (.getfield 80, 3) := by decide +kernel
theorem dX3_worksLabelledLike_31 : decode cX3_worksLabelledLike 31 = .ok (.iload_n 1, 1) := by decide +kernel
theorem dX3_worksLabelledLike_32 : decode cX3_worksLabelledLike 32 = .ok (.iaload, 1) := by decide +kernel
theorem dX3_worksLabelledLike_33 : decode cX3_worksLabelledLike 33 = .ok (.aload_n 0, 1) := by decide +kernel
theorem dX3_worksLabelledLike_34 : decode cX3_worksLabelledLike 34 = .ok (.getfield 35, 3) := by decide +kernel
theorem dX3_worksLabelledLike_37 : decode cX3_worksLabelledLike 37 = .ok (.getfield 80, 3) := by decide +kernel
theorem dX3_worksLabelledLike_40 : decode cX3_worksLabelledLike 40 = .ok (.iload_n 3, 1) := by decide +kernel
theorem dX3_worksLabelledLike_41 : decode cX3_worksLabelledLike 41 = .ok (.iaload, 1) := by decide +kernel
theorem dX3_worksLabelledLike_42 : decode cX3_worksLabelledLike 42 = .ok (.if_icmp .ne 24, 3) := by decide +kernel
theorem dX3_worksLabelledLike_45 : decode cX3_worksLabelledLike 45 = .ok (.aload_n 0, 1) := by decide +kernel
theorem dX3_worksLabelledLike_46 : decode cX3_worksLabelledLike 46 = .ok (.getfield 19, 3) := by decide +kernel
theorem dX3_worksLabelledLike_49 : decode cX3_worksLabelledLike 49 = .ok (.iload_n 1, 1) := by decide +kernel
theorem dX3_worksLabelledLike_50 : decode cX3_worksLabelledLike 50 = .ok (.iaload, 1) := by decide +kernel
theorem dX3_worksLabelledLike_51 : decode cX3_worksLabelledLike 51 = .ok (.aload_n 0, 1) := by decide +kernel
theorem dX3_worksLabelledLike_52 : decode cX3_worksLabelledLike 52 = .ok (.getfield 19, 3) := by decide +kernel
theorem dX3_worksLabelledLike_55 : decode cX3_worksLabelledLike 55 = .ok (.iload_n 3, 1) := by decide +kernel
theorem dX3_worksLabelledLike_56 : decode cX3_worksLabelledLike 56 = .ok (.iaload, 1) := by decide +kernel
theorem dX3_worksLabelledLike_57 : decode cX3_worksLabelledLike 57 = .ok (.if_icmp .ne 9, 3) := by decide +kernel
theorem dX3_worksLabelledLike_60 : decode cX3_worksLabelledLike 60 = .ok (.iload_n 2, 1) := by decide +kernel
theorem dX3_worksLabelledLike_61 : decode cX3_worksLabelledLike 61 = .ok (.iconst 1, 1) := by decide +kernel
theorem dX3_worksLabelledLike_62 : decode cX3_worksLabelledLike 62 = .ok (.iload_n 3, 1) := by decide +kernel
theorem dX3_worksLabelledLike_63 : decode cX3_worksLabelledLike 63 = .ok (.ishl, 1) := by decide +kernel
theorem dX3_worksLabelledLike_64 : decode cX3_worksLabelledLike 64 = .ok (.ior, 1) := by decide +kernel
theorem dX3_worksLabelledLike_65 : decode cX3_worksLabelledLike 65 = .ok (.istore_n 2, 1) := by decide +kernel
theorem dX3_worksLabelledLike_66 : decode cX3_worksLabelledLike 66 = .ok (.iinc 3 1, 3) := by decide +kernel
theorem dX3_worksLabelledLike_69 : decode cX3_worksLabelledLike 69 = .ok (.goto (-65), 3) := by decide +kernel
theorem dX3_worksLabelledLike_72 : decode cX3_worksLabelledLike 72 = .ok (.iload_n 2, 1) := by decide +kernel
theorem dX3_worksLabelledLike_73 : decode cX3_worksLabelledLike 73 = .ok (.ireturn, 1) := by decide +kernel
theorem dX3_initiallyShown_0 : decode cX3_initiallyShown 0 = .ok (.aload_n 0, 1) := by decide +kernel
theorem dX3_initiallyShown_1 : decode cX3_initiallyShown 1 = .ok (.getfield 35, 3) := by decide +kernel
theorem dX3_initiallyShown_4 : decode cX3_initiallyShown 4 = .ok (.getfield 73, 3) := by decide +kernel
theorem dX3_initiallyShown_7 : decode cX3_initiallyShown 7 = .ok (.iload_n 1, 1) := by decide +kernel
theorem dX3_initiallyShown_8 : decode cX3_initiallyShown 8 = .ok (.iaload, 1) := by decide +kernel
theorem dX3_initiallyShown_9 : decode cX3_initiallyShown 9 = .ok (.istore_n 2, 1) := by decide +kernel
theorem dX3_initiallyShown_10 : decode cX3_initiallyShown 10 = .ok (.aload_n 0, 1) := by decide +kernel
theorem dX3_initiallyShown_11 : decode cX3_initiallyShown 11 = .ok (.getfield 40, 3) := by decide +kernel
theorem dX3_initiallyShown_14 : decode cX3_initiallyShown 14 = .ok (.getfield 83, 3) := by decide +kernel
theorem dX3_initiallyShown_17 : decode cX3_initiallyShown 17 = .ok (.ifCond .eq 14, 3) := by decide +kernel
theorem dX3_initiallyShown_20 : decode cX3_initiallyShown 20 = .ok (.iload_n 2, 1) := by decide +kernel
theorem dX3_initiallyShown_21 : decode cX3_initiallyShown 21 = .ok (.aload_n 0, 1) := by decide +kernel
theorem dX3_initiallyShown_22 : decode cX3_initiallyShown 22 = .ok (.getfield 40, 3) := by decide +kernel
theorem dX3_initiallyShown_25 : decode cX3_initiallyShown 25 = .ok (.getfield 83, 3) := by decide +kernel
theorem dX3_initiallyShown_28 : decode cX3_initiallyShown 28 = .ok (.if_icmp .ge 5, 3) := by decide +kernel
theorem dX3_initiallyShown_31 : decode cX3_initiallyShown 31 = .ok (.iload_n 2, 1) := by decide +kernel
theorem dX3_initiallyShown_32 : decode cX3_initiallyShown 32 = .ok (.ireturn, 1) := by decide +kernel
theorem dX3_initiallyShown_33 : decode cX3_initiallyShown 33 = .ok (.aload_n 0, 1) := by decide +kernel
theorem dX3_initiallyShown_34 : decode cX3_initiallyShown 34 = .ok (.getfield 40, 3) := by decide +kernel
theorem dX3_initiallyShown_37 : decode cX3_initiallyShown 37 = .ok (.getfield 86, 3) := by decide +kernel
theorem dX3_initiallyShown_40 : decode cX3_initiallyShown 40 = .ok (.iload_n 2, 1) := by decide +kernel
theorem dX3_initiallyShown_41 : decode cX3_initiallyShown 41 = .ok (.invokestatic 89, 3) := by decide +kernel
theorem dX3_initiallyShown_44 : decode cX3_initiallyShown 44 = .ok (.ireturn, 1) := by decide +kernel
set_option maxRecDepth 20000 in
theorem ggX3_show_X3_hidesAuthors : GoodIn wsX3_show wsX3_hidesAuthors := goodIn_r _ [11, 1, 3, 12, 13, 14, 15, 16, 17, 18, 19, 20, 21, 22, 23, 24, 25, 26] (by decide +kernel) (by decide +kernel)
set_option maxRecDepth 20000 in
theorem gX3_show_X3_hidesAuthors : GoodIn wsX3_show (wsV RX3 95 RX3 yX3_hidesAuthors wsX3_hidesAuthors) := goodIn_app (goodIn_of _ (by decide +kernel)) ggX3_show_X3_hidesAuthors
theorem dX3_show_0 : decode cX3_show 0 = .ok (.aload_n 0, 1) := by decide +kernel
theorem dX3_show_1 : decode cX3_show 1 = .ok (.getfield 9, 3) := by decide +kernel
theorem dX3_show_4 : decode cX3_show 4 = .ok (.iload_n 1, 1) := by decide +kernel
theorem dX3_show_5 : decode cX3_show 5 = .ok (.iload_n 2, 1) := by decide +kernel
theorem dX3_show_6 : decode cX3_show 6 = .ok (.iastore, 1) := by decide +kernel
theorem dX3_show_7 : decode cX3_show 7 = .ok (.aload_n 0, 1) := by decide +kernel
theorem dX3_show_8 : decode cX3_show 8 = .ok (.getfield 15, 3) := by decide +kernel
theorem dX3_show_11 : decode cX3_show 11 = .ok (.iload_n 1, 1) := by decide +kernel
theorem dX3_show_12 : decode cX3_show 12 = .ok (.iload_n 3, 1) := by decide +kernel
theorem dX3_show_13 : decode cX3_show 13 = .ok (.bastore, 1) := by decide +kernel
theorem dX3_show_14 : decode cX3_show 14 = .ok (.aload_n 0, 1) := by decide +kernel
theorem dX3_show_15 : decode cX3_show 15 = .ok (.iload_n 1, 1) := by decide +kernel
theorem dX3_show_16 : decode cX3_show 16 = .ok (.invokevirtual 95, 3) := by decide +kernel
theorem dX3_show_19 : decode cX3_show 19 = .ok (.ifCond .eq 7, 3) := by decide +kernel
theorem dX3_show_22 : decode cX3_show 22 = .ok (.lconst 1, 1) := by decide +kernel
theorem dX3_show_23 : decode cX3_show 23 = .ok (.goto 4, 3) := by decide +kernel
theorem dX3_show_26 : decode cX3_show 26 = .ok (.lconst 0, 1) := by decide +kernel
theorem dX3_show_27 : decode cX3_show 27 = .ok (.lstore 4, 2) := by decide +kernel
theorem dX3_show_29 : decode cX3_show 29 = .ok (.iconst 0, 1) := by decide +kernel
theorem dX3_show_30 : decode cX3_show 30 = .ok (.istore 6, 2) := by decide +kernel
theorem dX3_show_32 : decode cX3_show 32 = .ok (.iload 6, 2) := by decide +kernel
theorem dX3_show_34 : decode cX3_show 34 = .ok (.iload_n 2, 1) := by decide +kernel
theorem dX3_show_35 : decode cX3_show 35 = .ok (.if_icmp .ge 75, 3) := by decide +kernel
theorem dX3_show_38 : decode cX3_show 38 = .ok (.iload_n 1, 1) := by decide +kernel
theorem dX3_show_39 : decode cX3_show 39 = .ok (.iconst 4, 1) := by decide +kernel
theorem dX3_show_40 : decode cX3_show 40 = .ok (.imul, 1) := by decide +kernel
theorem dX3_show_41 : decode cX3_show 41 = .ok (.iload 6, 2) := by decide +kernel
theorem dX3_show_43 : decode cX3_show 43 = .ok (.iadd, 1) := by decide +kernel
theorem dX3_show_44 : decode cX3_show 44 = .ok (.istore 7, 2) := by decide +kernel
theorem dX3_show_46 : decode cX3_show 46 = .ok (.aload_n 0, 1) := by decide +kernel
theorem dX3_show_47 : decode cX3_show 47 = .ok (.getfield 35, 3) := by decide +kernel
theorem dX3_show_50 : decode cX3_show 50 = .ok (.getfield 99, 3) := by decide +kernel
theorem dX3_show_53 : decode cX3_show 53 = .ok (.iload 7, 2) := by decide +kernel
theorem dX3_show_55 : decode cX3_show 55 = .ok (.iaload, 1) := by decide +kernel
theorem dX3_show_56 : decode cX3_show 56 = .ok (.bipush 65, 2) := by decide +kernel
theorem dX3_show_58 : decode cX3_show 58 = .ok (.isub, 1) := by decide +kernel
theorem dX3_show_59 : decode cX3_show 59 = .ok (.iconst 1, 1) := by decide +kernel
theorem dX3_show_60 : decode cX3_show 60 = .ok (.iadd, 1) := by decide +kernel
theorem dX3_show_61 : decode cX3_show 61 = .ok (.istore 8, 2) := by decide +kernel
theorem dX3_show_63 : decode cX3_show 63 = .ok (.iload_n 3, 1) := by decide +kernel
theorem dX3_show_64 : decode cX3_show 64 = .ok (.ifCond .eq 21, 3) := by decide +kernel
theorem dX3_show_67 : decode cX3_show 67 = .ok (.aload_n 0, 1) := by decide +kernel
theorem dX3_show_68 : decode cX3_show 68 = .ok (.getfield 35, 3) := by decide +kernel
theorem dX3_show_71 : decode cX3_show 71 = .ok (.getfield 102, 3) := by decide +kernel
theorem dX3_show_74 : decode cX3_show 74 = .ok (.iload 7, 2) := by decide +kernel
theorem dX3_show_76 : decode cX3_show 76 = .ok (.iaload, 1) := by decide +kernel
theorem dX3_show_77 : decode cX3_show 77 = .ok (.bipush 97, 2) := by decide +kernel
theorem dX3_show_79 : decode cX3_show 79 = .ok (.isub, 1) := by decide +kernel
theorem dX3_show_80 : decode cX3_show 80 = .ok (.iconst 1, 1) := by decide +kernel
theorem dX3_show_81 : decode cX3_show 81 = .ok (.iadd, 1) := by decide +kernel
theorem dX3_show_82 : decode cX3_show 82 = .ok (.goto 4, 3) := by decide +kernel
theorem dX3_show_85 : decode cX3_show 85 = .ok (.iconst 0, 1) := by decide +kernel
theorem dX3_show_86 : decode cX3_show 86 = .ok (.istore 9, 2) := by decide +kernel
theorem dX3_show_88 : decode cX3_show 88 = .ok (.lload 4, 2) := by decide +kernel
theorem dX3_show_90 : decode cX3_show 90 = .ok (.iconst 5, 1) := by decide +kernel
theorem dX3_show_91 : decode cX3_show 91 = .ok (.lshl, 1) := by decide +kernel
theorem dX3_show_92 : decode cX3_show 92 = .ok (.iload 8, 2) := by decide +kernel
theorem dX3_show_94 : decode cX3_show 94 = .ok (.i2l, 1) := by decide +kernel
theorem dX3_show_95 : decode cX3_show 95 = .ok (.lor, 1) := by decide +kernel
theorem dX3_show_96 : decode cX3_show 96 = .ok (.iconst 5, 1) := by decide +kernel
theorem dX3_show_97 : decode cX3_show 97 = .ok (.lshl, 1) := by decide +kernel
theorem dX3_show_98 : decode cX3_show 98 = .ok (.iload 9, 2) := by decide +kernel
theorem dX3_show_100 : decode cX3_show 100 = .ok (.i2l, 1) := by decide +kernel
theorem dX3_show_101 : decode cX3_show 101 = .ok (.lor, 1) := by decide +kernel
theorem dX3_show_102 : decode cX3_show 102 = .ok (.lstore 4, 2) := by decide +kernel
theorem dX3_show_104 : decode cX3_show 104 = .ok (.iinc 6 1, 3) := by decide +kernel
theorem dX3_show_107 : decode cX3_show 107 = .ok (.goto (-75), 3) := by decide +kernel
theorem dX3_show_110 : decode cX3_show 110 = .ok (.aload_n 0, 1) := by decide +kernel
theorem dX3_show_111 : decode cX3_show 111 = .ok (.getfield 22, 3) := by decide +kernel
theorem dX3_show_114 : decode cX3_show 114 = .ok (.iload_n 1, 1) := by decide +kernel
theorem dX3_show_115 : decode cX3_show 115 = .ok (.lload 4, 2) := by decide +kernel
theorem dX3_show_117 : decode cX3_show 117 = .ok (.lastore, 1) := by decide +kernel
theorem dX3_show_118 : decode cX3_show 118 = .ok (.return_, 1) := by decide +kernel
set_option maxRecDepth 20000 in
theorem ggX3_perform_X3_worksLabelledLike : GoodIn wsX3_perform wsX3_worksLabelledLike := goodIn_r _ [8, 1, 2, 9, 10, 11, 12, 13, 7, 14, 15, 78, 79, 80, 81, 82, 83, 84, 85, 86, 87, 88, 89, 90, 91] (by decide +kernel) (by decide +kernel)
set_option maxRecDepth 20000 in
theorem gX3_perform_X3_worksLabelledLike : GoodIn wsX3_perform (wsV RX3 105 RX3 yX3_worksLabelledLike wsX3_worksLabelledLike) := goodIn_app (goodIn_of _ (by decide +kernel)) ggX3_perform_X3_worksLabelledLike
set_option maxRecDepth 20000 in
theorem ggX3_perform_X3_isFirstOfGroup : GoodIn wsX3_perform wsX3_isFirstOfGroup := goodIn_r _ [19, 3, 20, 21, 22, 78, 79, 80, 81, 82, 83, 84, 85] (by decide +kernel) (by decide +kernel)
set_option maxRecDepth 20000 in
theorem gX3_perform_X3_isFirstOfGroup : GoodIn wsX3_perform (wsV RX3 108 RX3 yX3_isFirstOfGroup wsX3_isFirstOfGroup) := goodIn_app (goodIn_of _ (by decide +kernel)) ggX3_perform_X3_isFirstOfGroup
set_option maxRecDepth 20000 in
theorem ggX3_perform_X3_addNames : GoodIn wsX3_perform wsX3_addNames := goodIn_r _ [26, 27, 28, 29, 30, 31, 7, 32, 1, 2, 33, 34, 35, 36, 37, 38, 39, 40, 41, 42, 21, 43, 44, 45, 46, 47, 48, 49, 50, 51, 52, 53, 54, 55, 15, 56, 57, 58, 59, 60, 61, 62, 63, 4, 5, 6, 8, 9, 10, 11, 12, 13, 14, 20, 22, 78, 79, 80, 81, 82, 83, 84, 85, 92, 93, 94, 95, 96, 97, 98, 99, 100, 86, 87, 88, 89, 90, 91] (by decide +kernel) (by decide +kernel)
set_option maxRecDepth 20000 in
theorem gX3_perform_X3_addNames : GoodIn wsX3_perform (wsV RX3 111 RX3 yX3_addNames wsX3_addNames) := goodIn_app (goodIn_of _ (by decide +kernel)) ggX3_perform_X3_addNames
set_option maxRecDepth 20000 in
theorem ggX3_perform_X3_addInitials : GoodIn wsX3_perform wsX3_addInitials := goodIn_r _ [67, 68, 69, 70, 7, 71, 1, 2, 53, 42, 21, 43, 49, 50, 51, 52, 41, 54, 55, 15, 56, 57, 58, 59, 33, 60, 61, 62, 63, 4, 5, 6, 8, 9, 10, 11, 12, 13, 14, 20, 22, 78, 79, 80, 81, 82, 83, 84, 85, 86, 87, 88, 89, 90, 91] (by decide +kernel) (by decide +kernel)
set_option maxRecDepth 20000 in
theorem gX3_perform_X3_addInitials : GoodIn wsX3_perform (wsV RX3 114 RX3 yX3_addInitials wsX3_addInitials) := goodIn_app (goodIn_of _ (by decide +kernel)) ggX3_perform_X3_addInitials
set_option maxRecDepth 20000 in
theorem ggX3_perform_X3_addSuffixes : GoodIn wsX3_perform wsX3_addSuffixes := goodIn_r _ [75, 1, 2, 76, 77, 10, 42, 21, 43, 78, 79, 80, 81, 82, 83, 84, 85, 86, 87, 88, 89, 90, 91, 101, 102, 103, 104, 105, 106] (by decide +kernel) (by decide +kernel)
set_option maxRecDepth 20000 in
theorem gX3_perform_X3_addSuffixes : GoodIn wsX3_perform (wsV RX3 117 RX3 yX3_addSuffixes wsX3_addSuffixes) := goodIn_app (goodIn_of _ (by decide +kernel)) ggX3_perform_X3_addSuffixes
theorem dX3_perform_0 : decode cX3_perform 0 = .ok (.iconst 0, 1) := by decide +kernel
theorem dX3_perform_1 : decode cX3_perform 1 = .ok (.istore_n 2, 1) := by decide +kernel
theorem dX3_perform_2 : decode cX3_perform 2 = .ok (.iload_n 2, 1) := by decide +kernel
theorem dX3_perform_3 : decode cX3_perform 3 = .ok (.aload_n 0, 1) := by decide +kernel
theorem dX3_perform_4 : decode cX3_perform 4 = .ok (.getfield 35, 3) := by decide +kernel
theorem dX3_perform_7 : decode cX3_perform 7 = .ok (.getfield 50, 3) := by decide +kernel
theorem dX3_perform_10 : decode cX3_perform 10 = .ok (.if_icmp .ge 20, 3) := by decide +kernel
theorem dX3_perform_13 : decode cX3_perform 13 = .ok (.aload_n 0, 1) := by decide +kernel
theorem dX3_perform_14 : decode cX3_perform 14 = .ok (.getfield 26, 3) := by decide +kernel
theorem dX3_perform_17 : decode cX3_perform 17 = .ok (.iload_n 2, 1) := by decide +kernel
theorem dX3_perform_18 : decode cX3_perform 18 = .ok (.aload_n 0, 1) := by decide +kernel
theorem dX3_perform_19 : decode cX3_perform 19 = .ok (.iload_n 2, 1) := by decide +kernel
theorem dX3_perform_20 : decode cX3_perform 20 = .ok (.invokevirtual 105, 3) := by decide +kernel
theorem dX3_perform_23 : decode cX3_perform 23 = .ok (.iastore, 1) := by decide +kernel
theorem dX3_perform_24 : decode cX3_perform 24 = .ok (.iinc 2 1, 3) := by decide +kernel
theorem dX3_perform_27 : decode cX3_perform 27 = .ok (.goto (-25), 3) := by decide +kernel
theorem dX3_perform_30 : decode cX3_perform 30 = .ok (.iconst 0, 1) := by decide +kernel
theorem dX3_perform_31 : decode cX3_perform 31 = .ok (.istore_n 2, 1) := by decide +kernel
theorem dX3_perform_32 : decode cX3_perform 32 = .ok (.iload_n 2, 1) := by decide +kernel
theorem dX3_perform_33 : decode cX3_perform 33 = .ok (.aload_n 0, 1) := by decide +kernel
theorem dX3_perform_34 : decode cX3_perform 34 = .ok (.getfield 35, 3) := by decide +kernel
theorem dX3_perform_37 : decode cX3_perform 37 = .ok (.getfield 50, 3) := by decide +kernel
theorem dX3_perform_40 : decode cX3_perform 40 = .ok (.if_icmp .ge 82, 3) := by decide +kernel
theorem dX3_perform_43 : decode cX3_perform 43 = .ok (.aload_n 0, 1) := by decide +kernel
theorem dX3_perform_44 : decode cX3_perform 44 = .ok (.iload_n 2, 1) := by decide +kernel
theorem dX3_perform_45 : decode cX3_perform 45 = .ok (.invokevirtual 108, 3) := by decide +kernel
theorem dX3_perform_48 : decode cX3_perform 48 = .ok (.ifCond .ne 6, 3) := by decide +kernel
theorem dX3_perform_51 : decode cX3_perform 51 = .ok (.goto 65, 3) := by decide +kernel
theorem dX3_perform_54 : decode cX3_perform 54 = .ok (.iload_n 1, 1) := by decide +kernel
theorem dX3_perform_55 : decode cX3_perform 55 = .ok (.lookupswitch 51 #[(1, 25), (2, 38)], 25) := by decide +kernel
theorem dX3_perform_80 : decode cX3_perform 80 = .ok (.aload_n 0, 1) := by decide +kernel
theorem dX3_perform_81 : decode cX3_perform 81 = .ok (.aload_n 0, 1) := by decide +kernel
theorem dX3_perform_82 : decode cX3_perform 82 = .ok (.getfield 26, 3) := by decide +kernel
theorem dX3_perform_85 : decode cX3_perform 85 = .ok (.iload_n 2, 1) := by decide +kernel
theorem dX3_perform_86 : decode cX3_perform 86 = .ok (.iaload, 1) := by decide +kernel
theorem dX3_perform_87 : decode cX3_perform 87 = .ok (.invokevirtual 111, 3) := by decide +kernel
theorem dX3_perform_90 : decode cX3_perform 90 = .ok (.goto 26, 3) := by decide +kernel
theorem dX3_perform_93 : decode cX3_perform 93 = .ok (.aload_n 0, 1) := by decide +kernel
theorem dX3_perform_94 : decode cX3_perform 94 = .ok (.aload_n 0, 1) := by decide +kernel
theorem dX3_perform_95 : decode cX3_perform 95 = .ok (.getfield 26, 3) := by decide +kernel
theorem dX3_perform_98 : decode cX3_perform 98 = .ok (.iload_n 2, 1) := by decide +kernel
theorem dX3_perform_99 : decode cX3_perform 99 = .ok (.iaload, 1) := by decide +kernel
theorem dX3_perform_100 : decode cX3_perform 100 = .ok (.invokevirtual 114, 3) := by decide +kernel
theorem dX3_perform_103 : decode cX3_perform 103 = .ok (.goto 13, 3) := by decide +kernel
theorem dX3_perform_106 : decode cX3_perform 106 = .ok (.aload_n 0, 1) := by decide +kernel
theorem dX3_perform_107 : decode cX3_perform 107 = .ok (.aload_n 0, 1) := by decide +kernel
theorem dX3_perform_108 : decode cX3_perform 108 = .ok (.getfield 26, 3) := by decide +kernel
theorem dX3_perform_111 : decode cX3_perform 111 = .ok (.iload_n 2, 1) := by decide +kernel
theorem dX3_perform_112 : decode cX3_perform 112 = .ok (.iaload, 1) := by decide +kernel
theorem dX3_perform_113 : decode cX3_perform 113 = .ok (.invokevirtual 117, 3) := by decide +kernel
theorem dX3_perform_116 : decode cX3_perform 116 = .ok (.iinc 2 1, 3) := by decide +kernel
theorem dX3_perform_119 : decode cX3_perform 119 = .ok (.goto (-87), 3) := by decide +kernel
theorem dX3_perform_122 : decode cX3_perform 122 = .ok (.return_, 1) := by decide +kernel
set_option maxRecDepth 20000 in
theorem ggX3_isFirstOfGroup_X11_hasBelow : GoodIn wsX3_isFirstOfGroup wsX11_hasBelow := goodIn_r _ [4] (by decide +kernel) (by decide +kernel)
set_option maxRecDepth 20000 in
theorem gX3_isFirstOfGroup_X11_hasBelow_n120 : GoodIn wsX3_isFirstOfGroup (wsX11_hasBelow) := ggX3_isFirstOfGroup_X11_hasBelow
theorem dX3_isFirstOfGroup_0 : decode cX3_isFirstOfGroup 0 = .ok (.aload_n 0, 1) := by decide +kernel
theorem dX3_isFirstOfGroup_1 : decode cX3_isFirstOfGroup 1 = .ok (.getfield 26, 3) := by decide +kernel
theorem dX3_isFirstOfGroup_4 : decode cX3_isFirstOfGroup 4 = .ok (.iload_n 1, 1) := by decide +kernel
theorem dX3_isFirstOfGroup_5 : decode cX3_isFirstOfGroup 5 = .ok (.iaload, 1) := by decide +kernel
theorem dX3_isFirstOfGroup_6 : decode cX3_isFirstOfGroup 6 = .ok (.iconst 1, 1) := by decide +kernel
theorem dX3_isFirstOfGroup_7 : decode cX3_isFirstOfGroup 7 = .ok (.iload_n 1, 1) := by decide +kernel
theorem dX3_isFirstOfGroup_8 : decode cX3_isFirstOfGroup 8 = .ok (.ishl, 1) := by decide +kernel
theorem dX3_isFirstOfGroup_9 : decode cX3_isFirstOfGroup 9 = .ok (.if_icmp .eq 20, 3) := by decide +kernel
theorem dX3_isFirstOfGroup_12 : decode cX3_isFirstOfGroup 12 = .ok (.aload_n 0, 1) := by decide +kernel
theorem dX3_isFirstOfGroup_13 : decode cX3_isFirstOfGroup 13 = .ok (.getfield 26, 3) := by decide +kernel
theorem dX3_isFirstOfGroup_16 : decode cX3_isFirstOfGroup 16 = .ok (.iload_n 1, 1) := by decide +kernel
theorem dX3_isFirstOfGroup_17 : decode cX3_isFirstOfGroup 17 = .ok (.iaload, 1) := by decide +kernel
theorem dX3_isFirstOfGroup_18 : decode cX3_isFirstOfGroup 18 = .ok (.iload_n 1, 1) := by decide +kernel
theorem dX3_isFirstOfGroup_19 : decode cX3_isFirstOfGroup 19 = .ok (.invokestatic 120, 3) := by decide +kernel
theorem dX3_isFirstOfGroup_22 : decode cX3_isFirstOfGroup 22 = .ok (.ifCond .ne 7, 3) := by decide +kernel
theorem dX3_isFirstOfGroup_25 : decode cX3_isFirstOfGroup 25 = .ok (.iconst 1, 1) := by decide +kernel
theorem dX3_isFirstOfGroup_26 : decode cX3_isFirstOfGroup 26 = .ok (.goto 4, 3) := by decide +kernel
theorem dX3_isFirstOfGroup_29 : decode cX3_isFirstOfGroup 29 = .ok (.iconst 0, 1) := by decide +kernel
theorem dX3_isFirstOfGroup_30 : decode cX3_isFirstOfGroup 30 = .ok (.ireturn, 1) := by decide +kernel
set_option maxRecDepth 20000 in
theorem ggX3_addNames_X3_showAuthors : GoodIn wsX3_addNames wsX3_showAuthors := goodIn_r _ [7, 8, 9, 10, 11, 12, 13, 14, 15, 16, 17, 18, 19, 20, 21, 22, 23, 24, 6, 25, 1, 26, 2, 27, 28, 29, 30, 31, 32, 33, 34, 35, 36, 37, 38, 55, 56, 57, 58, 59, 60, 61, 62, 72, 73, 74, 75, 76, 77, 63, 64, 65, 66, 67, 68, 69, 70, 71] (by decide +kernel) (by decide +kernel)
set_option maxRecDepth 20000 in
theorem gX3_addNames_X3_showAuthors : GoodIn wsX3_addNames (wsV RX3 123 RX3 yX3_showAuthors wsX3_showAuthors) := goodIn_app (goodIn_of _ (by decide +kernel)) ggX3_addNames_X3_showAuthors
set_option maxRecDepth 20000 in
theorem ggX3_addNames_X3_differentLabels : GoodIn wsX3_addNames wsX3_differentLabels := goodIn_r _ [42, 8, 9, 19, 20, 21, 43, 44, 45, 6, 46, 47, 48, 49, 50, 51, 52, 34, 53, 54, 55, 56, 57, 58, 59, 60, 61, 62, 72, 73, 74, 75, 76, 77] (by decide +kernel) (by decide +kernel)
set_option maxRecDepth 20000 in
theorem gX3_addNames_X3_differentLabels : GoodIn wsX3_addNames (wsV RX3 127 RX3 yX3_differentLabels wsX3_differentLabels) := goodIn_app (goodIn_of _ (by decide +kernel)) ggX3_addNames_X3_differentLabels
theorem dX3_addNames_0 : decode cX3_addNames 0 = .ok (.aload_n 0, 1) := by decide +kernel
theorem dX3_addNames_1 : decode cX3_addNames 1 = .ok (.getfield 40, 3) := by decide +kernel
theorem dX3_addNames_4 : decode cX3_addNames 4 = .ok (.getfield 86, 3) := by decide +kernel
theorem dX3_addNames_7 : decode cX3_addNames 7 = .ok (.istore_n 2, 1) := by decide +kernel
theorem dX3_addNames_8 : decode cX3_addNames 8 = .ok (.iconst 0, 1) := by decide +kernel
theorem dX3_addNames_9 : decode cX3_addNames 9 = .ok (.istore_n 3, 1) := by decide +kernel
theorem dX3_addNames_10 : decode cX3_addNames 10 = .ok (.aload_n 0, 1) := by decide +kernel
theorem dX3_addNames_11 : decode cX3_addNames 11 = .ok (.getfield 40, 3) := by decide +kernel
theorem dX3_addNames_14 : decode cX3_addNames 14 = .ok (.getfield 86, 3) := by decide +kernel
theorem dX3_addNames_17 : decode cX3_addNames 17 = .ok (.istore 4, 2) := by decide +kernel
theorem dX3_addNames_19 : decode cX3_addNames 19 = .ok (.iload 4, 2) := by decide +kernel
theorem dX3_addNames_21 : decode cX3_addNames 21 = .ok (.iconst 4, 1) := by decide +kernel
theorem dX3_addNames_22 : decode cX3_addNames 22 = .ok (.if_icmp .gt 35, 3) := by decide +kernel
theorem dX3_addNames_25 : decode cX3_addNames 25 = .ok (.aload_n 0, 1) := by decide +kernel
theorem dX3_addNames_26 : decode cX3_addNames 26 = .ok (.iload_n 1, 1) := by decide +kernel
theorem dX3_addNames_27 : decode cX3_addNames 27 = .ok (.iload 4, 2) := by decide +kernel
theorem dX3_addNames_29 : decode cX3_addNames 29 = .ok (.invokevirtual 123, 3) := by decide +kernel
theorem dX3_addNames_32 : decode cX3_addNames 32 = .ok (.aload_n 0, 1) := by decide +kernel
theorem dX3_addNames_33 : decode cX3_addNames 33 = .ok (.iload_n 1, 1) := by decide +kernel
theorem dX3_addNames_34 : decode cX3_addNames 34 = .ok (.invokevirtual 127, 3) := by decide +kernel
theorem dX3_addNames_37 : decode cX3_addNames 37 = .ok (.istore 5, 2) := by decide +kernel
theorem dX3_addNames_39 : decode cX3_addNames 39 = .ok (.iload 5, 2) := by decide +kernel
theorem dX3_addNames_41 : decode cX3_addNames 41 = .ok (.iload_n 3, 1) := by decide +kernel
theorem dX3_addNames_42 : decode cX3_addNames 42 = .ok (.if_icmp .le 9, 3) := by decide +kernel
theorem dX3_addNames_45 : decode cX3_addNames 45 = .ok (.iload 4, 2) := by decide +kernel
theorem dX3_addNames_47 : decode cX3_addNames 47 = .ok (.istore_n 2, 1) := by decide +kernel
theorem dX3_addNames_48 : decode cX3_addNames 48 = .ok (.iload 5, 2) := by decide +kernel
theorem dX3_addNames_50 : decode cX3_addNames 50 = .ok (.istore_n 3, 1) := by decide +kernel
theorem dX3_addNames_51 : decode cX3_addNames 51 = .ok (.iinc 4 1, 3) := by decide +kernel
theorem dX3_addNames_54 : decode cX3_addNames 54 = .ok (.goto (-35), 3) := by decide +kernel
theorem dX3_addNames_57 : decode cX3_addNames 57 = .ok (.aload_n 0, 1) := by decide +kernel
theorem dX3_addNames_58 : decode cX3_addNames 58 = .ok (.iload_n 1, 1) := by decide +kernel
theorem dX3_addNames_59 : decode cX3_addNames 59 = .ok (.iload_n 2, 1) := by decide +kernel
theorem dX3_addNames_60 : decode cX3_addNames 60 = .ok (.invokevirtual 123, 3) := by decide +kernel
theorem dX3_addNames_63 : decode cX3_addNames 63 = .ok (.return_, 1) := by decide +kernel
set_option maxRecDepth 20000 in
theorem ggX3_showAuthors_X11_inSet : GoodIn wsX3_showAuthors wsX11_inSet := goodIn_r _ [14] (by decide +kernel) (by decide +kernel)
set_option maxRecDepth 20000 in
theorem gX3_showAuthors_X11_inSet_n130 : GoodIn wsX3_showAuthors (wsX11_inSet) := ggX3_showAuthors_X11_inSet
set_option maxRecDepth 20000 in
theorem ggX3_showAuthors_X3_initiallyShown : GoodIn wsX3_showAuthors wsX3_initiallyShown := goodIn_r _ [19, 1, 3, 20, 21, 22, 4, 5, 6, 7, 35, 36, 37, 38, 39, 40, 41, 42, 43, 44, 45, 46, 47, 48, 49, 50, 51, 52, 53, 54, 55, 56, 57] (by decide +kernel) (by decide +kernel)
set_option maxRecDepth 20000 in
theorem gX3_showAuthors_X3_initiallyShown : GoodIn wsX3_showAuthors (wsV RX3 56 RX3 yX3_initiallyShown wsX3_initiallyShown) := goodIn_app (goodIn_of _ (by decide +kernel)) ggX3_showAuthors_X3_initiallyShown
set_option maxRecDepth 20000 in
theorem ggX3_showAuthors_X3_show : GoodIn wsX3_showAuthors wsX3_show := goodIn_r _ [26, 27, 11, 1, 28, 29, 30, 31, 32, 33, 18, 34, 3, 35, 36, 37, 38, 39, 40, 41, 42, 43, 44, 45, 46, 47, 48] (by decide +kernel) (by decide +kernel)
set_option maxRecDepth 20000 in
theorem gX3_showAuthors_X3_show : GoodIn wsX3_showAuthors (wsV RX3 60 RX3 yX3_show wsX3_show) := goodIn_app (goodIn_of _ (by decide +kernel)) ggX3_showAuthors_X3_show
theorem dX3_showAuthors_0 : decode cX3_showAuthors 0 = .ok (.iconst 0, 1) := by decide +kernel
theorem dX3_showAuthors_1 : decode cX3_showAuthors 1 = .ok (.istore_n 3, 1) := by decide +kernel
theorem dX3_showAuthors_2 : decode cX3_showAuthors 2 = .ok (.iload_n 3, 1) := by decide +kernel
theorem dX3_showAuthors_3 : decode cX3_showAuthors 3 = .ok (.aload_n 0, 1) := by decide +kernel
theorem dX3_showAuthors_4 : decode cX3_showAuthors 4 = .ok (.getfield 35, 3) := by decide +kernel
theorem dX3_showAuthors_7 : decode cX3_showAuthors 7 = .ok (.getfield 50, 3) := by decide +kernel
theorem dX3_showAuthors_10 : decode cX3_showAuthors 10 = .ok (.if_icmp .ge 53, 3) := by decide +kernel
theorem dX3_showAuthors_13 : decode cX3_showAuthors 13 = .ok (.iload_n 1, 1) := by decide +kernel
theorem dX3_showAuthors_14 : decode cX3_showAuthors 14 = .ok (.iload_n 3, 1) := by decide +kernel
theorem dX3_showAuthors_15 : decode cX3_showAuthors 15 = .ok (.invokestatic 130, 3) := by decide +kernel
theorem dX3_showAuthors_18 : decode cX3_showAuthors 18 = .ok (.ifCond .eq 39, 3) := by decide +kernel
theorem dX3_showAuthors_21 : decode cX3_showAuthors 21 = .ok (.iload_n 2, 1) := by decide +kernel
theorem dX3_showAuthors_22 : decode cX3_showAuthors 22 = .ok (.aload_n 0, 1) := by decide +kernel
theorem dX3_showAuthors_23 : decode cX3_showAuthors 23 = .ok (.getfield 35, 3) := by decide +kernel
theorem dX3_showAuthors_26 : decode cX3_showAuthors 26 = .ok (.getfield 73, 3) := by decide +kernel
theorem dX3_showAuthors_29 : decode cX3_showAuthors 29 = .ok (.iload_n 3, 1) := by decide +kernel
theorem dX3_showAuthors_30 : decode cX3_showAuthors 30 = .ok (.iaload, 1) := by decide +kernel
theorem dX3_showAuthors_31 : decode cX3_showAuthors 31 = .ok (.invokestatic 89, 3) := by decide +kernel
theorem dX3_showAuthors_34 : decode cX3_showAuthors 34 = .ok (.istore 4, 2) := by decide +kernel
theorem dX3_showAuthors_36 : decode cX3_showAuthors 36 = .ok (.aload_n 0, 1) := by decide +kernel
theorem dX3_showAuthors_37 : decode cX3_showAuthors 37 = .ok (.iload_n 3, 1) := by decide +kernel
theorem dX3_showAuthors_38 : decode cX3_showAuthors 38 = .ok (.iload 4, 2) := by decide +kernel
theorem dX3_showAuthors_40 : decode cX3_showAuthors 40 = .ok (.aload_n 0, 1) := by decide +kernel
theorem dX3_showAuthors_41 : decode cX3_showAuthors 41 = .ok (.iload_n 3, 1) := by decide +kernel
theorem dX3_showAuthors_42 : decode cX3_showAuthors 42 = .ok (.invokevirtual 56, 3) := by decide +kernel
theorem dX3_showAuthors_45 : decode cX3_showAuthors 45 = .ok (.invokestatic 133, 3) := by decide +kernel
theorem dX3_showAuthors_48 : decode cX3_showAuthors 48 = .ok (.aload_n 0, 1) := by decide +kernel
theorem dX3_showAuthors_49 : decode cX3_showAuthors 49 = .ok (.getfield 15, 3) := by decide +kernel
theorem dX3_showAuthors_52 : decode cX3_showAuthors 52 = .ok (.iload_n 3, 1) := by decide +kernel
theorem dX3_showAuthors_53 : decode cX3_showAuthors 53 = .ok (.baload, 1) := by decide +kernel
theorem dX3_showAuthors_54 : decode cX3_showAuthors 54 = .ok (.invokevirtual 60, 3) := by decide +kernel
theorem dX3_showAuthors_57 : decode cX3_showAuthors 57 = .ok (.iinc 3 1, 3) := by decide +kernel
theorem dX3_showAuthors_60 : decode cX3_showAuthors 60 = .ok (.goto (-58), 3) := by decide +kernel
theorem dX3_showAuthors_63 : decode cX3_showAuthors 63 = .ok (.return_, 1) := by decide +kernel
set_option maxRecDepth 20000 in
theorem ggX3_addInitials_X3_showInitials : GoodIn wsX3_addInitials wsX3_showInitials := goodIn_r _ [5, 6, 7, 8, 9, 10, 11, 12, 13, 14, 4, 15, 16, 17, 18, 19, 20, 21, 22, 23, 24, 41, 42, 43, 44, 45, 46, 47, 48, 49, 50, 51, 52, 53, 54] (by decide +kernel) (by decide +kernel)
set_option maxRecDepth 20000 in
theorem gX3_addInitials_X3_showInitials : GoodIn wsX3_addInitials (wsV RX3 136 RX3 yX3_showInitials wsX3_showInitials) := goodIn_app (goodIn_of _ (by decide +kernel)) ggX3_addInitials_X3_showInitials
set_option maxRecDepth 20000 in
theorem ggX3_addInitials_X3_differentLabels : GoodIn wsX3_addInitials wsX3_differentLabels := goodIn_r _ [28, 6, 7, 9, 10, 11, 29, 30, 31, 4, 32, 33, 34, 35, 36, 37, 38, 19, 39, 40, 41, 42, 43, 44, 45, 46, 47, 48, 49, 50, 51, 52, 53, 54] (by decide +kernel) (by decide +kernel)
set_option maxRecDepth 20000 in
theorem gX3_addInitials_X3_differentLabels : GoodIn wsX3_addInitials (wsV RX3 127 RX3 yX3_differentLabels wsX3_differentLabels) := goodIn_app (goodIn_of _ (by decide +kernel)) ggX3_addInitials_X3_differentLabels
theorem dX3_addInitials_0 : decode cX3_addInitials 0 = .ok (.aload_n 0, 1) := by decide +kernel
theorem dX3_addInitials_1 : decode cX3_addInitials 1 = .ok (.iload_n 1, 1) := by decide +kernel
theorem dX3_addInitials_2 : decode cX3_addInitials 2 = .ok (.iconst 1, 1) := by decide +kernel
theorem dX3_addInitials_3 : decode cX3_addInitials 3 = .ok (.invokevirtual 136, 3) := by decide +kernel
theorem dX3_addInitials_6 : decode cX3_addInitials 6 = .ok (.aload_n 0, 1) := by decide +kernel
theorem dX3_addInitials_7 : decode cX3_addInitials 7 = .ok (.iload_n 1, 1) := by decide +kernel
theorem dX3_addInitials_8 : decode cX3_addInitials 8 = .ok (.invokevirtual 127, 3) := by decide +kernel
theorem dX3_addInitials_11 : decode cX3_addInitials 11 = .ok (.iconst 2, 1) := by decide +kernel
theorem dX3_addInitials_12 : decode cX3_addInitials 12 = .ok (.if_icmp .ge 9, 3) := by decide +kernel
theorem dX3_addInitials_15 : decode cX3_addInitials 15 = .ok (.aload_n 0, 1) := by decide +kernel
theorem dX3_addInitials_16 : decode cX3_addInitials 16 = .ok (.iload_n 1, 1) := by decide +kernel
theorem dX3_addInitials_17 : decode cX3_addInitials 17 = .ok (.iconst 0, 1) := by decide +kernel
theorem dX3_addInitials_18 : decode cX3_addInitials 18 = .ok (.invokevirtual 136, 3) := by decide +kernel
theorem dX3_addInitials_21 : decode cX3_addInitials 21 = .ok (.return_, 1) := by decide +kernel
set_option maxRecDepth 20000 in
theorem ggX3_showInitials_X11_inSet : GoodIn wsX3_showInitials wsX11_inSet := goodIn_r _ [6] (by decide +kernel) (by decide +kernel)
set_option maxRecDepth 20000 in
theorem gX3_showInitials_X11_inSet_n130 : GoodIn wsX3_showInitials (wsX11_inSet) := ggX3_showInitials_X11_inSet
set_option maxRecDepth 20000 in
theorem ggX3_showInitials_X3_show : GoodIn wsX3_showInitials wsX3_show := goodIn_r _ [11, 3, 12, 1, 13, 14, 15, 16, 17, 18, 10, 19, 20, 21, 22, 23, 24, 25, 26, 27, 28, 29, 30, 31, 32, 33, 34] (by decide +kernel) (by decide +kernel)
set_option maxRecDepth 20000 in
theorem gX3_showInitials_X3_show : GoodIn wsX3_showInitials (wsV RX3 60 RX3 yX3_show wsX3_show) := goodIn_app (goodIn_of _ (by decide +kernel)) ggX3_showInitials_X3_show
theorem dX3_showInitials_0 : decode cX3_showInitials 0 = .ok (.iconst 0, 1) := by decide +kernel
theorem dX3_showInitials_1 : decode cX3_showInitials 1 = .ok (.istore_n 3, 1) := by decide +kernel
theorem dX3_showInitials_2 : decode cX3_showInitials 2 = .ok (.iload_n 3, 1) := by decide +kernel
theorem dX3_showInitials_3 : decode cX3_showInitials 3 = .ok (.aload_n 0, 1) := by decide +kernel
theorem dX3_showInitials_4 : decode cX3_showInitials 4 = .ok (.getfield 35, 3) := by decide +kernel
theorem dX3_showInitials_7 : decode cX3_showInitials 7 = .ok (.getfield 50, 3) := by decide +kernel
theorem dX3_showInitials_10 : decode cX3_showInitials 10 = .ok (.if_icmp .ge 29, 3) := by decide +kernel
theorem dX3_showInitials_13 : decode cX3_showInitials 13 = .ok (.iload_n 1, 1) := by decide +kernel
theorem dX3_showInitials_14 : decode cX3_showInitials 14 = .ok (.iload_n 3, 1) := by decide +kernel
theorem dX3_showInitials_15 : decode cX3_showInitials 15 = .ok (.invokestatic 130, 3) := by decide +kernel
theorem dX3_showInitials_18 : decode cX3_showInitials 18 = .ok (.ifCond .eq 15, 3) := by decide +kernel
theorem dX3_showInitials_21 : decode cX3_showInitials 21 = .ok (.aload_n 0, 1) := by decide +kernel
theorem dX3_showInitials_22 : decode cX3_showInitials 22 = .ok (.iload_n 3, 1) := by decide +kernel
theorem dX3_showInitials_23 : decode cX3_showInitials 23 = .ok (.aload_n 0, 1) := by decide +kernel
theorem dX3_showInitials_24 : decode cX3_showInitials 24 = .ok (.getfield 9, 3) := by decide +kernel
theorem dX3_showInitials_27 : decode cX3_showInitials 27 = .ok (.iload_n 3, 1) := by decide +kernel
theorem dX3_showInitials_28 : decode cX3_showInitials 28 = .ok (.iaload, 1) := by decide +kernel
theorem dX3_showInitials_29 : decode cX3_showInitials 29 = .ok (.iload_n 2, 1) := by decide +kernel
theorem dX3_showInitials_30 : decode cX3_showInitials 30 = .ok (.invokevirtual 60, 3) := by decide +kernel
theorem dX3_showInitials_33 : decode cX3_showInitials 33 = .ok (.iinc 3 1, 3) := by decide +kernel
theorem dX3_showInitials_36 : decode cX3_showInitials 36 = .ok (.goto (-34), 3) := by decide +kernel
theorem dX3_showInitials_39 : decode cX3_showInitials 39 = .ok (.return_, 1) := by decide +kernel
set_option maxRecDepth 20000 in
theorem ggX3_addSuffixes_X11_inSet : GoodIn wsX3_addSuffixes wsX11_inSet := goodIn_r _ [8] (by decide +kernel) (by decide +kernel)
set_option maxRecDepth 20000 in
theorem gX3_addSuffixes_X11_inSet_n130 : GoodIn wsX3_addSuffixes (wsX11_inSet) := ggX3_addSuffixes_X11_inSet
theorem dX3_addSuffixes_0 : decode cX3_addSuffixes 0 = .ok (.bipush 97, 2) := by decide +kernel
theorem dX3_addSuffixes_2 : decode cX3_addSuffixes 2 = .ok (.istore_n 2, 1) := by decide +kernel
theorem dX3_addSuffixes_3 : decode cX3_addSuffixes 3 = .ok (.iconst 0, 1) := by decide +kernel
theorem dX3_addSuffixes_4 : decode cX3_addSuffixes 4 = .ok (.istore_n 3, 1) := by decide +kernel
theorem dX3_addSuffixes_5 : decode cX3_addSuffixes 5 = .ok (.iload_n 3, 1) := by decide +kernel
theorem dX3_addSuffixes_6 : decode cX3_addSuffixes 6 = .ok (.aload_n 0, 1) := by decide +kernel
theorem dX3_addSuffixes_7 : decode cX3_addSuffixes 7 = .ok (.getfield 35, 3) := by decide +kernel
theorem dX3_addSuffixes_10 : decode cX3_addSuffixes 10 = .ok (.getfield 50, 3) := by decide +kernel
theorem dX3_addSuffixes_13 : decode cX3_addSuffixes 13 = .ok (.if_icmp .ge 40, 3) := by decide +kernel
theorem dX3_addSuffixes_16 : decode cX3_addSuffixes 16 = .ok (.aload_n 0, 1) := by decide +kernel
theorem dX3_addSuffixes_17 : decode cX3_addSuffixes 17 = .ok (.getfield 41, 3) := by decide +kernel
theorem dX3_addSuffixes_20 : decode cX3_addSuffixes 20 = .ok (.getfield 140, 3) := by decide +kernel
theorem dX3_addSuffixes_23 : decode cX3_addSuffixes 23 = .ok (.iload_n 3, 1) := by decide +kernel
theorem dX3_addSuffixes_24 : decode cX3_addSuffixes 24 = .ok (.iaload, 1) := by decide +kernel
theorem dX3_addSuffixes_25 : decode cX3_addSuffixes 25 = .ok (.istore 4, 2) := by decide +kernel
theorem dX3_addSuffixes_27 : decode cX3_addSuffixes 27 = .ok (.iload_n 1, 1) := by decide +kernel
theorem dX3_addSuffixes_28 : decode cX3_addSuffixes 28 = .ok (.iload 4, 2) := by decide +kernel
theorem dX3_addSuffixes_30 : decode cX3_addSuffixes 30 = .ok (.invokestatic 130, 3) := by decide +kernel
theorem dX3_addSuffixes_33 : decode cX3_addSuffixes 33 = .ok (.ifCond .eq 14, 3) := by decide +kernel
theorem dX3_addSuffixes_36 : decode cX3_addSuffixes 36 = .ok (.aload_n 0, 1) := by decide +kernel
theorem dX3_addSuffixes_37 : decode cX3_addSuffixes 37 = .ok (.getfield 19, 3) := by decide +kernel
theorem dX3_addSuffixes_40 : decode cX3_addSuffixes 40 = .ok (.iload 4, 2) := by decide +kernel
theorem dX3_addSuffixes_42 : decode cX3_addSuffixes 42 = .ok (.iload_n 2, 1) := by decide +kernel
theorem dX3_addSuffixes_43 : decode cX3_addSuffixes 43 = .ok (.iastore, 1) := by decide +kernel
theorem dX3_addSuffixes_44 : decode cX3_addSuffixes 44 = .ok (.iinc 2 1, 3) := by decide +kernel
theorem dX3_addSuffixes_47 : decode cX3_addSuffixes 47 = .ok (.iinc 3 1, 3) := by decide +kernel
theorem dX3_addSuffixes_50 : decode cX3_addSuffixes 50 = .ok (.goto (-45), 3) := by decide +kernel
theorem dX3_addSuffixes_53 : decode cX3_addSuffixes 53 = .ok (.return_, 1) := by decide +kernel
set_option maxRecDepth 20000 in
theorem ggX3_differentLabels_X11_inSet : GoodIn wsX3_differentLabels wsX11_inSet := goodIn_r _ [5] (by decide +kernel) (by decide +kernel)
set_option maxRecDepth 20000 in
theorem gX3_differentLabels_X11_inSet_n130 : GoodIn wsX3_differentLabels (wsX11_inSet) := ggX3_differentLabels_X11_inSet
set_option maxRecDepth 20000 in
theorem ggX3_differentLabels_X3_worksLabelledLike : GoodIn wsX3_differentLabels wsX3_worksLabelledLike := goodIn_r _ [10, 1, 2, 11, 12, 13, 14, 15, 9, 16, 17, 20, 21, 22, 23, 24, 25, 26, 27, 28, 29, 30, 31, 32, 33] (by decide +kernel) (by decide +kernel)
set_option maxRecDepth 20000 in
theorem gX3_differentLabels_X3_worksLabelledLike : GoodIn wsX3_differentLabels (wsV RX3 105 RX3 yX3_worksLabelledLike wsX3_worksLabelledLike) := goodIn_app (goodIn_of _ (by decide +kernel)) ggX3_differentLabels_X3_worksLabelledLike
set_option maxRecDepth 20000 in
theorem ggX3_differentLabels_X11_hasBelow : GoodIn wsX3_differentLabels wsX11_hasBelow := goodIn_r _ [19] (by decide +kernel) (by decide +kernel)
set_option maxRecDepth 20000 in
theorem gX3_differentLabels_X11_hasBelow_n120 : GoodIn wsX3_differentLabels (wsX11_hasBelow) := ggX3_differentLabels_X11_hasBelow
theorem dX3_differentLabels_0 : decode cX3_differentLabels 0 = .ok (.iconst 0, 1) := by decide +kernel
theorem dX3_differentLabels_1 : decode cX3_differentLabels 1 = .ok (.istore_n 2, 1) := by decide +kernel
theorem dX3_differentLabels_2 : decode cX3_differentLabels 2 = .ok (.iconst 0, 1) := by decide +kernel
theorem dX3_differentLabels_3 : decode cX3_differentLabels 3 = .ok (.istore_n 3, 1) := by decide +kernel
theorem dX3_differentLabels_4 : decode cX3_differentLabels 4 = .ok (.iload_n 3, 1) := by decide +kernel
theorem dX3_differentLabels_5 : decode cX3_differentLabels 5 = .ok (.aload_n 0, 1) := by decide +kernel
theorem dX3_differentLabels_6 : decode cX3_differentLabels 6 = .ok (.getfield 35, 3) := by decide +kernel
theorem dX3_differentLabels_9 : decode cX3_differentLabels 9 = .ok (.getfield 50, 3) := by decide +kernel
theorem dX3_differentLabels_12 : decode cX3_differentLabels 12 = .ok (.if_icmp .ge 34, 3) := by decide +kernel
theorem dX3_differentLabels_15 : decode cX3_differentLabels 15 = .ok (.iload_n 1, 1) := by decide +kernel
theorem dX3_differentLabels_16 : decode cX3_differentLabels 16 = .ok (.iload_n 3, 1) := by decide +kernel
theorem dX3_differentLabels_17 : decode cX3_differentLabels 17 = .ok (.invokestatic 130, 3) := by decide +kernel
theorem dX3_differentLabels_20 : decode cX3_differentLabels 20 = .ok (.ifCond .eq 20, 3) := by decide +kernel
theorem dX3_differentLabels_23 : decode cX3_differentLabels 23 = .ok (.iload_n 1, 1) := by decide +kernel
theorem dX3_differentLabels_24 : decode cX3_differentLabels 24 = .ok (.aload_n 0, 1) := by decide +kernel
theorem dX3_differentLabels_25 : decode cX3_differentLabels 25 = .ok (.iload_n 3, 1) := by decide +kernel
theorem dX3_differentLabels_26 : decode cX3_differentLabels 26 = .ok (.invokevirtual 105, 3) := by decide +kernel
theorem dX3_differentLabels_29 : decode cX3_differentLabels 29 = .ok (.iand, 1) := by decide +kernel
theorem dX3_differentLabels_30 : decode cX3_differentLabels 30 = .ok (.iload_n 3, 1) := by decide +kernel
theorem dX3_differentLabels_31 : decode cX3_differentLabels 31 = .ok (.invokestatic 120, 3) := by decide +kernel
theorem dX3_differentLabels_34 : decode cX3_differentLabels 34 = .ok (.ifCond .ne 6, 3) := by decide +kernel
theorem dX3_differentLabels_37 : decode cX3_differentLabels 37 = .ok (.iinc 2 1, 3) := by decide +kernel
theorem dX3_differentLabels_40 : decode cX3_differentLabels 40 = .ok (.iinc 3 1, 3) := by decide +kernel
theorem dX3_differentLabels_43 : decode cX3_differentLabels 43 = .ok (.goto (-39), 3) := by decide +kernel
theorem dX3_differentLabels_46 : decode cX3_differentLabels 46 = .ok (.iload_n 2, 1) := by decide +kernel
theorem dX3_differentLabels_47 : decode cX3_differentLabels 47 = .ok (.ireturn, 1) := by decide +kernel
theorem dX4_init_0 : decode cX4_init 0 = .ok (.aload_n 0, 1) := by decide +kernel
theorem dX4_init_1 : decode cX4_init 1 = .ok (.invokespecial 3, 3) := by decide +kernel
theorem dX4_init_4 : decode cX4_init 4 = .ok (.aload_n 0, 1) := by decide +kernel
theorem dX4_init_5 : decode cX4_init 5 = .ok (.iconst 0, 1) := by decide +kernel
theorem dX4_init_6 : decode cX4_init 6 = .ok (.putfield 9, 3) := by decide +kernel
theorem dX4_init_9 : decode cX4_init 9 = .ok (.aload_n 0, 1) := by decide +kernel
theorem dX4_init_10 : decode cX4_init 10 = .ok (.iconst 0, 1) := by decide +kernel
theorem dX4_init_11 : decode cX4_init 11 = .ok (.putfield 15, 3) := by decide +kernel
theorem dX4_init_14 : decode cX4_init 14 = .ok (.aload_n 0, 1) := by decide +kernel
theorem dX4_init_15 : decode cX4_init 15 = .ok (.iconst 0, 1) := by decide +kernel
theorem dX4_init_16 : decode cX4_init 16 = .ok (.putfield 18, 3) := by decide +kernel
theorem dX4_init_19 : decode cX4_init 19 = .ok (.aload_n 0, 1) := by decide +kernel
theorem dX4_init_20 : decode cX4_init 20 = .ok (.iconst 0, 1) := by decide +kernel
theorem dX4_init_21 : decode cX4_init 21 = .ok (.putfield 21, 3) := by decide +kernel
theorem dX4_init_24 : decode cX4_init 24 = .ok (.aload_n 0, 1) := by decide +kernel
theorem dX4_init_25 : decode cX4_init 25 = .ok (.aload_n 1, 1) := by decide +kernel
theorem dX4_init_26 : decode cX4_init 26 = .ok (.putfield 24, 3) := by decide +kernel
theorem dX4_init_29 : decode cX4_init 29 = .ok (.return_, 1) := by decide +kernel
set_option maxRecDepth 20000 in
theorem ggX4_read_X4_takes : GoodIn wsX4_read wsX4_takes := goodIn_r _ [11, 2, 12, 13, 14, 10, 15, 3, 16, 1, 17, 18, 19, 20, 21, 22, 23, 24, 25, 26, 27, 28, 29, 30, 31, 32, 33, 34, 35, 36] (by decide +kernel) (by decide +kernel)
set_option maxRecDepth 20000 in
theorem gX4_read_X4_takes : GoodIn wsX4_read (wsV RX4 37 RX4 yX4_takes wsX4_takes) := goodIn_app (goodIn_of _ (by decide +kernel)) ggX4_read_X4_takes
theorem dX4_read_0 : decode cX4_read 0 = .ok (.aload_n 0, 1) := by decide +kernel
theorem dX4_read_1 : decode cX4_read 1 = .ok (.iconst 0, 1) := by decide +kernel
theorem dX4_read_2 : decode cX4_read 2 = .ok (.putfield 9, 3) := by decide +kernel
theorem dX4_read_5 : decode cX4_read 5 = .ok (.aload_n 0, 1) := by decide +kernel
theorem dX4_read_6 : decode cX4_read 6 = .ok (.iconst 0, 1) := by decide +kernel
theorem dX4_read_7 : decode cX4_read 7 = .ok (.putfield 15, 3) := by decide +kernel
theorem dX4_read_10 : decode cX4_read 10 = .ok (.aload_n 0, 1) := by decide +kernel
theorem dX4_read_11 : decode cX4_read 11 = .ok (.iload_n 1, 1) := by decide +kernel
theorem dX4_read_12 : decode cX4_read 12 = .ok (.putfield 18, 3) := by decide +kernel
theorem dX4_read_15 : decode cX4_read 15 = .ok (.iconst 0, 1) := by decide +kernel
theorem dX4_read_16 : decode cX4_read 16 = .ok (.istore_n 2, 1) := by decide +kernel
theorem dX4_read_17 : decode cX4_read 17 = .ok (.iload_n 2, 1) := by decide +kernel
theorem dX4_read_18 : decode cX4_read 18 = .ok (.aload_n 0, 1) := by decide +kernel
theorem dX4_read_19 : decode cX4_read 19 = .ok (.getfield 24, 3) := by decide +kernel
theorem dX4_read_22 : decode cX4_read 22 = .ok (.getfield 28, 3) := by decide +kernel
theorem dX4_read_25 : decode cX4_read 25 = .ok (.if_icmp .ge 27, 3) := by decide +kernel
theorem dX4_read_28 : decode cX4_read 28 = .ok (.aload_n 0, 1) := by decide +kernel
theorem dX4_read_29 : decode cX4_read 29 = .ok (.aload_n 0, 1) := by decide +kernel
theorem dX4_read_30 : decode cX4_read 30 = .ok (.getfield 24, 3) := by decide +kernel
theorem dX4_read_33 : decode cX4_read 33 = .ok (.getfield 33, 3) := by decide +kernel
theorem dX4_read_36 : decode cX4_read 36 = .ok (.iload_n 2, 1) := by decide +kernel
theorem dX4_read_37 : decode cX4_read 37 = .ok (.iaload, 1) := by decide +kernel
theorem dX4_read_38 : decode cX4_read 38 = .ok (.invokevirtual 37, 3) := by decide +kernel
theorem dX4_read_41 : decode cX4_read 41 = .ok (.ifCond .ne 5, 3) := by decide +kernel
theorem dX4_read_44 : decode cX4_read 44 = .ok (.iload_n 2, 1) := by decide +kernel
theorem dX4_read_45 : decode cX4_read 45 = .ok (.ireturn, 1) := by decide +kernel
theorem dX4_read_46 : decode cX4_read 46 = .ok (.iinc 2 1, 3) := by decide +kernel
theorem dX4_read_49 : decode cX4_read 49 = .ok (.goto (-32), 3) := by decide +kernel
theorem dX4_read_52 : decode cX4_read 52 = .ok (.aload_n 0, 1) := by decide +kernel
theorem dX4_read_53 : decode cX4_read 53 = .ok (.getfield 15, 3) := by decide +kernel
theorem dX4_read_56 : decode cX4_read 56 = .ok (.iconst 5, 1) := by decide +kernel
theorem dX4_read_57 : decode cX4_read 57 = .ok (.if_icmp .ne 7, 3) := by decide +kernel
theorem dX4_read_60 : decode cX4_read 60 = .ok (.iconst (-1), 1) := by decide +kernel
theorem dX4_read_61 : decode cX4_read 61 = .ok (.goto 10, 3) := by decide +kernel
theorem dX4_read_64 : decode cX4_read 64 = .ok (.aload_n 0, 1) := by decide +kernel
theorem dX4_read_65 : decode cX4_read 65 = .ok (.getfield 24, 3) := by decide +kernel
theorem dX4_read_68 : decode cX4_read 68 = .ok (.getfield 28, 3) := by decide +kernel
theorem dX4_read_71 : decode cX4_read 71 = .ok (.ireturn, 1) := by decide +kernel
set_option maxRecDepth 20000 in
theorem ggX4_takes_X4_takesFirst : GoodIn wsX4_takes wsX4_takesFirst := goodIn_r _ [6, 7, 8, 9, 1, 10, 11, 12, 25, 26, 27, 28, 29] (by decide +kernel) (by decide +kernel)
set_option maxRecDepth 20000 in
theorem gX4_takes_X4_takesFirst : GoodIn wsX4_takes (wsV RX4 41 RX4 yX4_takesFirst wsX4_takesFirst) := goodIn_app (goodIn_of _ (by decide +kernel)) ggX4_takes_X4_takesFirst
set_option maxRecDepth 20000 in
theorem ggX4_takes_X4_takesHyphen : GoodIn wsX4_takes wsX4_takesHyphen := goodIn_r _ [16, 1, 25, 26, 27, 28, 29] (by decide +kernel) (by decide +kernel)
set_option maxRecDepth 20000 in
theorem gX4_takes_X4_takesHyphen : GoodIn wsX4_takes (wsV RX4 44 RX4 yX4_takesHyphen wsX4_takesHyphen) := goodIn_app (goodIn_of _ (by decide +kernel)) ggX4_takes_X4_takesHyphen
set_option maxRecDepth 20000 in
theorem ggX4_takes_X4_takesItemEnd : GoodIn wsX4_takes wsX4_takesItemEnd := goodIn_r _ [20, 1, 25, 26, 27, 28, 29] (by decide +kernel) (by decide +kernel)
set_option maxRecDepth 20000 in
theorem gX4_takes_X4_takesItemEnd : GoodIn wsX4_takes (wsV RX4 47 RX4 yX4_takesItemEnd wsX4_takesItemEnd) := goodIn_app (goodIn_of _ (by decide +kernel)) ggX4_takes_X4_takesItemEnd
set_option maxRecDepth 20000 in
theorem ggX4_takes_X4_takesLast : GoodIn wsX4_takes wsX4_takesLast := goodIn_r _ [24, 8, 7, 9, 1, 10, 11, 12, 25, 26, 27, 28, 29] (by decide +kernel) (by decide +kernel)
set_option maxRecDepth 20000 in
theorem gX4_takes_X4_takesLast : GoodIn wsX4_takes (wsV RX4 50 RX4 yX4_takesLast wsX4_takesLast) := goodIn_app (goodIn_of _ (by decide +kernel)) ggX4_takes_X4_takesLast
theorem dX4_takes_0 : decode cX4_takes 0 = .ok (.aload_n 0, 1) := by decide +kernel
theorem dX4_takes_1 : decode cX4_takes 1 = .ok (.getfield 15, 3) := by decide +kernel
theorem dX4_takes_4 : decode cX4_takes 4 = .ok (.tableswitch 99 0 4 #[36, 53, 62, 84, 93], 36) := by decide +kernel
theorem dX4_takes_40 : decode cX4_takes 40 = .ok (.aload_n 0, 1) := by decide +kernel
theorem dX4_takes_41 : decode cX4_takes 41 = .ok (.iconst 1, 1) := by decide +kernel
theorem dX4_takes_42 : decode cX4_takes 42 = .ok (.putfield 15, 3) := by decide +kernel
theorem dX4_takes_45 : decode cX4_takes 45 = .ok (.iload_n 1, 1) := by decide +kernel
theorem dX4_takes_46 : decode cX4_takes 46 = .ok (.bipush 91, 2) := by decide +kernel
theorem dX4_takes_48 : decode cX4_takes 48 = .ok (.if_icmp .ne 7, 3) := by decide +kernel
theorem dX4_takes_51 : decode cX4_takes 51 = .ok (.iconst 1, 1) := by decide +kernel
theorem dX4_takes_52 : decode cX4_takes 52 = .ok (.goto 4, 3) := by decide +kernel
theorem dX4_takes_55 : decode cX4_takes 55 = .ok (.iconst 0, 1) := by decide +kernel
theorem dX4_takes_56 : decode cX4_takes 56 = .ok (.ireturn, 1) := by decide +kernel
theorem dX4_takes_57 : decode cX4_takes 57 = .ok (.aload_n 0, 1) := by decide +kernel
theorem dX4_takes_58 : decode cX4_takes 58 = .ok (.iload_n 1, 1) := by decide +kernel
theorem dX4_takes_59 : decode cX4_takes 59 = .ok (.bipush 48, 2) := by decide +kernel
theorem dX4_takes_61 : decode cX4_takes 61 = .ok (.isub, 1) := by decide +kernel
theorem dX4_takes_62 : decode cX4_takes 62 = .ok (.invokevirtual 41, 3) := by decide +kernel
theorem dX4_takes_65 : decode cX4_takes 65 = .ok (.ireturn, 1) := by decide +kernel
theorem dX4_takes_66 : decode cX4_takes 66 = .ok (.aload_n 0, 1) := by decide +kernel
theorem dX4_takes_67 : decode cX4_takes 67 = .ok (.iload_n 1, 1) := by decide +kernel
theorem dX4_takes_68 : decode cX4_takes 68 = .ok (.invokevirtual 44, 3) := by decide +kernel
theorem dX4_takes_71 : decode cX4_takes 71 = .ok (.ifCond .ne 11, 3) := by decide +kernel
theorem dX4_takes_74 : decode cX4_takes 74 = .ok (.aload_n 0, 1) := by decide +kernel
theorem dX4_takes_75 : decode cX4_takes 75 = .ok (.iload_n 1, 1) := by decide +kernel
theorem dX4_takes_76 : decode cX4_takes 76 = .ok (.invokevirtual 47, 3) := by decide +kernel
theorem dX4_takes_79 : decode cX4_takes 79 = .ok (.ifCond .eq 7, 3) := by decide +kernel
theorem dX4_takes_82 : decode cX4_takes 82 = .ok (.iconst 1, 1) := by decide +kernel
theorem dX4_takes_83 : decode cX4_takes 83 = .ok (.goto 4, 3) := by decide +kernel
theorem dX4_takes_86 : decode cX4_takes 86 = .ok (.iconst 0, 1) := by decide +kernel
theorem dX4_takes_87 : decode cX4_takes 87 = .ok (.ireturn, 1) := by decide +kernel
theorem dX4_takes_88 : decode cX4_takes 88 = .ok (.aload_n 0, 1) := by decide +kernel
theorem dX4_takes_89 : decode cX4_takes 89 = .ok (.iload_n 1, 1) := by decide +kernel
theorem dX4_takes_90 : decode cX4_takes 90 = .ok (.bipush 48, 2) := by decide +kernel
theorem dX4_takes_92 : decode cX4_takes 92 = .ok (.isub, 1) := by decide +kernel
theorem dX4_takes_93 : decode cX4_takes 93 = .ok (.invokevirtual 50, 3) := by decide +kernel
theorem dX4_takes_96 : decode cX4_takes 96 = .ok (.ireturn, 1) := by decide +kernel
theorem dX4_takes_97 : decode cX4_takes 97 = .ok (.aload_n 0, 1) := by decide +kernel
theorem dX4_takes_98 : decode cX4_takes 98 = .ok (.iload_n 1, 1) := by decide +kernel
theorem dX4_takes_99 : decode cX4_takes 99 = .ok (.invokevirtual 47, 3) := by decide +kernel
theorem dX4_takes_102 : decode cX4_takes 102 = .ok (.ireturn, 1) := by decide +kernel
theorem dX4_takes_103 : decode cX4_takes 103 = .ok (.iconst 0, 1) := by decide +kernel
theorem dX4_takes_104 : decode cX4_takes 104 = .ok (.ireturn, 1) := by decide +kernel
set_option maxRecDepth 20000 in
theorem ggX4_takesFirst_X11_inRange : GoodIn wsX4_takesFirst wsX11_inRange := goodIn_r _ [7] (by decide +kernel) (by decide +kernel)
set_option maxRecDepth 20000 in
theorem gX4_takesFirst_X11_inRange_n53 : GoodIn wsX4_takesFirst (wsX11_inRange) := ggX4_takesFirst_X11_inRange
theorem dX4_takesFirst_0 : decode cX4_takesFirst 0 = .ok (.iload_n 1, 1) := by decide +kernel
theorem dX4_takesFirst_1 : decode cX4_takesFirst 1 = .ok (.iconst 1, 1) := by decide +kernel
theorem dX4_takesFirst_2 : decode cX4_takesFirst 2 = .ok (.aload_n 0, 1) := by decide +kernel
theorem dX4_takesFirst_3 : decode cX4_takesFirst 3 = .ok (.getfield 18, 3) := by decide +kernel
theorem dX4_takesFirst_6 : decode cX4_takesFirst 6 = .ok (.invokestatic 53, 3) := by decide +kernel
theorem dX4_takesFirst_9 : decode cX4_takesFirst 9 = .ok (.ifCond .ne 5, 3) := by decide +kernel
theorem dX4_takesFirst_12 : decode cX4_takesFirst 12 = .ok (.iconst 0, 1) := by decide +kernel
theorem dX4_takesFirst_13 : decode cX4_takesFirst 13 = .ok (.ireturn, 1) := by decide +kernel
theorem dX4_takesFirst_14 : decode cX4_takesFirst 14 = .ok (.aload_n 0, 1) := by decide +kernel
theorem dX4_takesFirst_15 : decode cX4_takesFirst 15 = .ok (.iload_n 1, 1) := by decide +kernel
theorem dX4_takesFirst_16 : decode cX4_takesFirst 16 = .ok (.putfield 21, 3) := by decide +kernel
theorem dX4_takesFirst_19 : decode cX4_takesFirst 19 = .ok (.aload_n 0, 1) := by decide +kernel
theorem dX4_takesFirst_20 : decode cX4_takesFirst 20 = .ok (.dup, 1) := by decide +kernel
theorem dX4_takesFirst_21 : decode cX4_takesFirst 21 = .ok (.getfield 9, 3) := by decide +kernel
theorem dX4_takesFirst_24 : decode cX4_takesFirst 24 = .ok (.iconst 1, 1) := by decide +kernel
theorem dX4_takesFirst_25 : decode cX4_takesFirst 25 = .ok (.iload_n 1, 1) := by decide +kernel
theorem dX4_takesFirst_26 : decode cX4_takesFirst 26 = .ok (.ishl, 1) := by decide +kernel
theorem dX4_takesFirst_27 : decode cX4_takesFirst 27 = .ok (.ior, 1) := by decide +kernel
theorem dX4_takesFirst_28 : decode cX4_takesFirst 28 = .ok (.putfield 9, 3) := by decide +kernel
theorem dX4_takesFirst_31 : decode cX4_takesFirst 31 = .ok (.aload_n 0, 1) := by decide +kernel
theorem dX4_takesFirst_32 : decode cX4_takesFirst 32 = .ok (.iconst 2, 1) := by decide +kernel
theorem dX4_takesFirst_33 : decode cX4_takesFirst 33 = .ok (.putfield 15, 3) := by decide +kernel
theorem dX4_takesFirst_36 : decode cX4_takesFirst 36 = .ok (.iconst 1, 1) := by decide +kernel
theorem dX4_takesFirst_37 : decode cX4_takesFirst 37 = .ok (.ireturn, 1) := by decide +kernel
set_option maxRecDepth 20000 in
theorem ggX4_takesLast_X11_inRange : GoodIn wsX4_takesLast wsX11_inRange := goodIn_r _ [7] (by decide +kernel) (by decide +kernel)
set_option maxRecDepth 20000 in
theorem gX4_takesLast_X11_inRange_n53 : GoodIn wsX4_takesLast (wsX11_inRange) := ggX4_takesLast_X11_inRange
theorem dX4_takesLast_0 : decode cX4_takesLast 0 = .ok (.iload_n 1, 1) := by decide +kernel
theorem dX4_takesLast_1 : decode cX4_takesLast 1 = .ok (.aload_n 0, 1) := by decide +kernel
theorem dX4_takesLast_2 : decode cX4_takesLast 2 = .ok (.getfield 21, 3) := by decide +kernel
theorem dX4_takesLast_5 : decode cX4_takesLast 5 = .ok (.iconst 1, 1) := by decide +kernel
theorem dX4_takesLast_6 : decode cX4_takesLast 6 = .ok (.iadd, 1) := by decide +kernel
theorem dX4_takesLast_7 : decode cX4_takesLast 7 = .ok (.aload_n 0, 1) := by decide +kernel
theorem dX4_takesLast_8 : decode cX4_takesLast 8 = .ok (.getfield 18, 3) := by decide +kernel
theorem dX4_takesLast_11 : decode cX4_takesLast 11 = .ok (.invokestatic 53, 3) := by decide +kernel
theorem dX4_takesLast_14 : decode cX4_takesLast 14 = .ok (.ifCond .ne 5, 3) := by decide +kernel
theorem dX4_takesLast_17 : decode cX4_takesLast 17 = .ok (.iconst 0, 1) := by decide +kernel
theorem dX4_takesLast_18 : decode cX4_takesLast 18 = .ok (.ireturn, 1) := by decide +kernel
theorem dX4_takesLast_19 : decode cX4_takesLast 19 = .ok (.aload_n 0, 1) := by decide +kernel
theorem dX4_takesLast_20 : decode cX4_takesLast 20 = .ok (.getfield 21, 3) := by decide +kernel
theorem dX4_takesLast_23 : decode cX4_takesLast 23 = .ok (.iconst 1, 1) := by decide +kernel
theorem dX4_takesLast_24 : decode cX4_takesLast 24 = .ok (.iadd, 1) := by decide +kernel
theorem dX4_takesLast_25 : decode cX4_takesLast 25 = .ok (.istore_n 2, 1) := by decide +kernel
theorem dX4_takesLast_26 : decode cX4_takesLast 26 = .ok (.iload_n 2, 1) := by decide +kernel
theorem dX4_takesLast_27 : decode cX4_takesLast 27 = .ok (.iload_n 1, 1) := by decide +kernel
theorem dX4_takesLast_28 : decode cX4_takesLast 28 = .ok (.if_icmp .gt 21, 3) := by decide +kernel
theorem dX4_takesLast_31 : decode cX4_takesLast 31 = .ok (.aload_n 0, 1) := by decide +kernel
theorem dX4_takesLast_32 : decode cX4_takesLast 32 = .ok (.dup, 1) := by decide +kernel
theorem dX4_takesLast_33 : decode cX4_takesLast 33 = .ok (.getfield 9, 3) := by decide +kernel
theorem dX4_takesLast_36 : decode cX4_takesLast 36 = .ok (.iconst 1, 1) := by decide +kernel
theorem dX4_takesLast_37 : decode cX4_takesLast 37 = .ok (.iload_n 2, 1) := by decide +kernel
theorem dX4_takesLast_38 : decode cX4_takesLast 38 = .ok (.ishl, 1) := by decide +kernel
theorem dX4_takesLast_39 : decode cX4_takesLast 39 = .ok (.ior, 1) := by decide +kernel
theorem dX4_takesLast_40 : decode cX4_takesLast 40 = .ok (.putfield 9, 3) := by decide +kernel
theorem dX4_takesLast_43 : decode cX4_takesLast 43 = .ok (.iinc 2 1, 3) := by decide +kernel
theorem dX4_takesLast_46 : decode cX4_takesLast 46 = .ok (.goto (-20), 3) := by decide +kernel
theorem dX4_takesLast_49 : decode cX4_takesLast 49 = .ok (.aload_n 0, 1) := by decide +kernel
theorem dX4_takesLast_50 : decode cX4_takesLast 50 = .ok (.iconst 4, 1) := by decide +kernel
theorem dX4_takesLast_51 : decode cX4_takesLast 51 = .ok (.putfield 15, 3) := by decide +kernel
theorem dX4_takesLast_54 : decode cX4_takesLast 54 = .ok (.iconst 1, 1) := by decide +kernel
theorem dX4_takesLast_55 : decode cX4_takesLast 55 = .ok (.ireturn, 1) := by decide +kernel
theorem dX4_takesHyphen_0 : decode cX4_takesHyphen 0 = .ok (.iload_n 1, 1) := by decide +kernel
theorem dX4_takesHyphen_1 : decode cX4_takesHyphen 1 = .ok (.bipush 45, 2) := by decide +kernel
theorem dX4_takesHyphen_3 : decode cX4_takesHyphen 3 = .ok (.if_icmp .eq 5, 3) := by decide +kernel
theorem dX4_takesHyphen_6 : decode cX4_takesHyphen 6 = .ok (.iconst 0, 1) := by decide +kernel
theorem dX4_takesHyphen_7 : decode cX4_takesHyphen 7 = .ok (.ireturn, 1) := by decide +kernel
theorem dX4_takesHyphen_8 : decode cX4_takesHyphen 8 = .ok (.aload_n 0, 1) := by decide +kernel
theorem dX4_takesHyphen_9 : decode cX4_takesHyphen 9 = .ok (.iconst 3, 1) := by decide +kernel
theorem dX4_takesHyphen_10 : decode cX4_takesHyphen 10 = .ok (.putfield 15, 3) := by decide +kernel
theorem dX4_takesHyphen_13 : decode cX4_takesHyphen 13 = .ok (.iconst 1, 1) := by decide +kernel
theorem dX4_takesHyphen_14 : decode cX4_takesHyphen 14 = .ok (.ireturn, 1) := by decide +kernel
theorem dX4_takesItemEnd_0 : decode cX4_takesItemEnd 0 = .ok (.iload_n 1, 1) := by decide +kernel
theorem dX4_takesItemEnd_1 : decode cX4_takesItemEnd 1 = .ok (.bipush 44, 2) := by decide +kernel
theorem dX4_takesItemEnd_3 : decode cX4_takesItemEnd 3 = .ok (.if_icmp .eq 11, 3) := by decide +kernel
theorem dX4_takesItemEnd_6 : decode cX4_takesItemEnd 6 = .ok (.iload_n 1, 1) := by decide +kernel
theorem dX4_takesItemEnd_7 : decode cX4_takesItemEnd 7 = .ok (.bipush 93, 2) := by decide +kernel
theorem dX4_takesItemEnd_9 : decode cX4_takesItemEnd 9 = .ok (.if_icmp .eq 5, 3) := by decide +kernel
theorem dX4_takesItemEnd_12 : decode cX4_takesItemEnd 12 = .ok (.iconst 0, 1) := by decide +kernel
theorem dX4_takesItemEnd_13 : decode cX4_takesItemEnd 13 = .ok (.ireturn, 1) := by decide +kernel
theorem dX4_takesItemEnd_14 : decode cX4_takesItemEnd 14 = .ok (.aload_n 0, 1) := by decide +kernel
theorem dX4_takesItemEnd_15 : decode cX4_takesItemEnd 15 = .ok (.iload_n 1, 1) := by decide +kernel
theorem dX4_takesItemEnd_16 : decode cX4_takesItemEnd 16 = .ok (.bipush 44, 2) := by decide +kernel
theorem dX4_takesItemEnd_18 : decode cX4_takesItemEnd 18 = .ok (.if_icmp .ne 7, 3) := by decide +kernel
theorem dX4_takesItemEnd_21 : decode cX4_takesItemEnd 21 = .ok (.iconst 1, 1) := by decide +kernel
theorem dX4_takesItemEnd_22 : decode cX4_takesItemEnd 22 = .ok (.goto 4, 3) := by decide +kernel
theorem dX4_takesItemEnd_25 : decode cX4_takesItemEnd 25 = .ok (.iconst 5, 1) := by decide +kernel
theorem dX4_takesItemEnd_26 : decode cX4_takesItemEnd 26 = .ok (.putfield 15, 3) := by decide +kernel
theorem dX4_takesItemEnd_29 : decode cX4_takesItemEnd 29 = .ok (.iconst 1, 1) := by decide +kernel
theorem dX4_takesItemEnd_30 : decode cX4_takesItemEnd 30 = .ok (.ireturn, 1) := by decide +kernel
theorem dX5_init_0 : decode cX5_init 0 = .ok (.aload_n 0, 1) := by decide +kernel
theorem dX5_init_1 : decode cX5_init 1 = .ok (.invokespecial 3, 3) := by decide +kernel
theorem dX5_init_4 : decode cX5_init 4 = .ok (.aload_n 0, 1) := by decide +kernel
theorem dX5_init_5 : decode cX5_init 5 = .ok (.iconst 0, 1) := by decide +kernel
theorem dX5_init_6 : decode cX5_init 6 = .ok (.putfield 9, 3) := by decide +kernel
theorem dX5_init_9 : decode cX5_init 9 = .ok (.aload_n 0, 1) := by decide +kernel
theorem dX5_init_10 : decode cX5_init 10 = .ok (.bipush 100, 2) := by decide +kernel
theorem dX5_init_12 : decode cX5_init 12 = .ok (.newarray .int, 2) := by decide +kernel
theorem dX5_init_14 : decode cX5_init 14 = .ok (.putfield 15, 3) := by decide +kernel
theorem dX5_init_17 : decode cX5_init 17 = .ok (.aload_n 0, 1) := by decide +kernel
theorem dX5_init_18 : decode cX5_init 18 = .ok (.iconst 5, 1) := by decide +kernel
theorem dX5_init_19 : decode cX5_init 19 = .ok (.newarray .int, 2) := by decide +kernel
theorem dX5_init_21 : decode cX5_init 21 = .ok (.putfield 19, 3) := by decide +kernel
theorem dX5_init_24 : decode cX5_init 24 = .ok (.aload_n 0, 1) := by decide +kernel
theorem dX5_init_25 : decode cX5_init 25 = .ok (.iconst 0, 1) := by decide +kernel
theorem dX5_init_26 : decode cX5_init 26 = .ok (.putfield 22, 3) := by decide +kernel
theorem dX5_init_29 : decode cX5_init 29 = .ok (.aload_n 0, 1) := by decide +kernel
theorem dX5_init_30 : decode cX5_init 30 = .ok (.aload_n 1, 1) := by decide +kernel
theorem dX5_init_31 : decode cX5_init 31 = .ok (.getfield 25, 3) := by decide +kernel
theorem dX5_init_34 : decode cX5_init 34 = .ok (.putfield 31, 3) := by decide +kernel
theorem dX5_init_37 : decode cX5_init 37 = .ok (.aload_n 0, 1) := by decide +kernel
theorem dX5_init_38 : decode cX5_init 38 = .ok (.aload_n 1, 1) := by decide +kernel
theorem dX5_init_39 : decode cX5_init 39 = .ok (.getfield 32, 3) := by decide +kernel
theorem dX5_init_42 : decode cX5_init 42 = .ok (.putfield 36, 3) := by decide +kernel
theorem dX5_init_45 : decode cX5_init 45 = .ok (.aload_n 0, 1) := by decide +kernel
theorem dX5_init_46 : decode cX5_init 46 = .ok (.aload_n 1, 1) := by decide +kernel
theorem dX5_init_47 : decode cX5_init 47 = .ok (.getfield 37, 3) := by decide +kernel
theorem dX5_init_50 : decode cX5_init 50 = .ok (.putfield 41, 3) := by decide +kernel
theorem dX5_init_53 : decode cX5_init 53 = .ok (.aload_n 0, 1) := by decide +kernel
theorem dX5_init_54 : decode cX5_init 54 = .ok (.aload_n 2, 1) := by decide +kernel
theorem dX5_init_55 : decode cX5_init 55 = .ok (.putfield 42, 3) := by decide +kernel
theorem dX5_init_58 : decode cX5_init 58 = .ok (.aload_n 0, 1) := by decide +kernel
theorem dX5_init_59 : decode cX5_init 59 = .ok (.aload_n 3, 1) := by decide +kernel
theorem dX5_init_60 : decode cX5_init 60 = .ok (.putfield 46, 3) := by decide +kernel
theorem dX5_init_63 : decode cX5_init 63 = .ok (.return_, 1) := by decide +kernel
theorem dX5_codeAt_0 : decode cX5_codeAt 0 = .ok (.iload_n 1, 1) := by decide +kernel
theorem dX5_codeAt_1 : decode cX5_codeAt 1 = .ok (.ifCond .lt 20, 3) := by decide +kernel
theorem dX5_codeAt_4 : decode cX5_codeAt 4 = .ok (.iload_n 1, 1) := by decide +kernel
theorem dX5_codeAt_5 : decode cX5_codeAt 5 = .ok (.aload_n 0, 1) := by decide +kernel
theorem dX5_codeAt_6 : decode cX5_codeAt 6 = .ok (.getfield 9, 3) := by decide +kernel
theorem dX5_codeAt_9 : decode cX5_codeAt 9 = .ok (.if_icmp .ge 12, 3) := by decide +kernel
theorem dX5_codeAt_12 : decode cX5_codeAt 12 = .ok (.aload_n 0, 1) := by decide +kernel
theorem dX5_codeAt_13 : decode cX5_codeAt 13 = .ok (.getfield 15, 3) := by decide +kernel
theorem dX5_codeAt_16 : decode cX5_codeAt 16 = .ok (.iload_n 1, 1) := by decide +kernel
theorem dX5_codeAt_17 : decode cX5_codeAt 17 = .ok (.iaload, 1) := by decide +kernel
theorem dX5_codeAt_18 : decode cX5_codeAt 18 = .ok (.goto 5, 3) := by decide +kernel
theorem dX5_codeAt_21 : decode cX5_codeAt 21 = .ok (.bipush (-9), 2) := by decide +kernel
theorem dX5_codeAt_23 : decode cX5_codeAt 23 = .ok (.ireturn, 1) := by decide +kernel
set_option maxRecDepth 20000 in
theorem ggX5_renderCitation_X5_putInSequence : GoodIn wsX5_renderCitation wsX5_putInSequence := goodIn_r _ [8, 9, 2, 10, 11, 12, 13, 14, 15, 16, 17, 18, 19, 20, 21, 22, 23, 24, 25, 7, 26, 27, 28, 29, 30, 31, 32, 33, 133, 134, 135, 136, 137, 138, 139, 140, 141, 142, 143, 144, 145, 146, 147, 148, 149, 150, 151, 152, 153, 154, 155, 156, 157, 158, 159, 160, 161, 162, 163, 164, 165] (by decide +kernel) (by decide +kernel)
set_option maxRecDepth 20000 in
theorem gX5_renderCitation_X5_putInSequence : GoodIn wsX5_renderCitation (wsV RX5 50 RX5 yX5_putInSequence wsX5_putInSequence) := goodIn_app (goodIn_of _ (by decide +kernel)) ggX5_renderCitation_X5_putInSequence
set_option maxRecDepth 20000 in
theorem ggX5_renderCitation_X5_writeAuthorYear : GoodIn wsX5_renderCitation wsX5_writeAuthorYear := goodIn_r _ [37, 9, 27, 38, 39, 40, 7, 41, 1, 42, 43, 44, 45, 46, 2, 47, 48, 49, 50, 51, 52, 53, 54, 55, 56, 57, 58, 59, 13, 60, 61, 62, 63, 64, 65, 66, 67, 68, 69, 70, 71, 72, 73, 74, 75, 76, 77, 78, 79, 80, 81, 82, 83, 84, 85, 86, 87, 88, 89, 90, 91, 92, 93, 94, 95, 133, 134, 135, 136, 137, 138, 139, 140, 141, 142, 143, 144, 145, 146, 147, 148, 149, 150, 166, 167, 168, 169, 170, 171, 172, 173, 154, 155, 156, 157, 158, 159] (by decide +kernel) (by decide +kernel)
set_option maxRecDepth 20000 in
theorem gX5_renderCitation_X5_writeAuthorYear : GoodIn wsX5_renderCitation (wsV RX5 59 RX5 yX5_writeAuthorYear wsX5_writeAuthorYear) := goodIn_app (goodIn_of _ (by decide +kernel)) ggX5_renderCitation_X5_writeAuthorYear
set_option maxRecDepth 20000 in
theorem ggX5_renderCitation_X5_writeNumeric : GoodIn wsX5_renderCitation wsX5_writeNumeric := goodIn_r _ [99, 9, 2, 47, 38, 39, 40, 7, 41, 1, 42, 100, 101, 102, 103, 15, 104, 27, 65, 66, 67, 68, 105, 106, 107, 108, 133, 134, 135, 136, 137, 138, 139, 140, 141, 142, 143, 144, 145, 146, 147, 148, 149, 150, 160, 161, 162, 163, 164, 165] (by decide +kernel) (by decide +kernel)
set_option maxRecDepth 20000 in
theorem gX5_renderCitation_X5_writeNumeric : GoodIn wsX5_renderCitation (wsV RX5 62 RX5 yX5_writeNumeric wsX5_writeNumeric) := goodIn_app (goodIn_of _ (by decide +kernel)) ggX5_renderCitation_X5_writeNumeric
set_option maxRecDepth 20000 in
theorem ggX5_renderCitation_X5_writeNote : GoodIn wsX5_renderCitation wsX5_writeNote := goodIn_r _ [112, 9, 27, 38, 39, 40, 7, 41, 1, 42, 113, 114, 115, 116, 11, 12, 17, 18, 19, 20, 21, 22, 117, 118, 119, 120, 13, 121, 122, 123, 124, 125, 126, 127, 29, 30, 31, 32, 33, 77, 78, 79, 80, 48, 81, 82, 83, 84, 85, 86, 87, 88, 89, 90, 91, 52, 92, 93, 94, 95, 65, 66, 67, 68, 128, 129, 130, 131, 132, 61, 62, 63, 64, 60, 133, 134, 135, 136, 137, 138, 139, 140, 141, 151, 152, 153, 154, 155, 156, 157, 158, 159, 166, 167, 168, 169, 170, 171, 172, 173] (by decide +kernel) (by decide +kernel)
set_option maxRecDepth 20000 in
theorem gX5_renderCitation_X5_writeNote : GoodIn wsX5_renderCitation (wsV RX5 65 RX5 yX5_writeNote wsX5_writeNote) := goodIn_app (goodIn_of _ (by decide +kernel)) ggX5_renderCitation_X5_writeNote
theorem dX5_renderCitation_0 : decode cX5_renderCitation 0 = .ok (.aload_n 0, 1) := by decide +kernel
theorem dX5_renderCitation_1 : decode cX5_renderCitation 1 = .ok (.iconst 0, 1) := by decide +kernel
theorem dX5_renderCitation_2 : decode cX5_renderCitation 2 = .ok (.putfield 9, 3) := by decide +kernel
theorem dX5_renderCitation_5 : decode cX5_renderCitation 5 = .ok (.aload_n 0, 1) := by decide +kernel
theorem dX5_renderCitation_6 : decode cX5_renderCitation 6 = .ok (.iload_n 1, 1) := by decide +kernel
theorem dX5_renderCitation_7 : decode cX5_renderCitation 7 = .ok (.invokevirtual 50, 3) := by decide +kernel
theorem dX5_renderCitation_10 : decode cX5_renderCitation 10 = .ok (.aload_n 0, 1) := by decide +kernel
theorem dX5_renderCitation_11 : decode cX5_renderCitation 11 = .ok (.getfield 36, 3) := by decide +kernel
theorem dX5_renderCitation_14 : decode cX5_renderCitation 14 = .ok (.getfield 54, 3) := by decide +kernel
theorem dX5_renderCitation_17 : decode cX5_renderCitation 17 = .ok (.lookupswitch 41 #[(0, 27), (1, 34)], 27) := by decide +kernel
theorem dX5_renderCitation_44 : decode cX5_renderCitation 44 = .ok (.aload_n 0, 1) := by decide +kernel
theorem dX5_renderCitation_45 : decode cX5_renderCitation 45 = .ok (.invokevirtual 59, 3) := by decide +kernel
theorem dX5_renderCitation_48 : decode cX5_renderCitation 48 = .ok (.goto 15, 3) := by decide +kernel
theorem dX5_renderCitation_51 : decode cX5_renderCitation 51 = .ok (.aload_n 0, 1) := by decide +kernel
theorem dX5_renderCitation_52 : decode cX5_renderCitation 52 = .ok (.invokevirtual 62, 3) := by decide +kernel
theorem dX5_renderCitation_55 : decode cX5_renderCitation 55 = .ok (.goto 8, 3) := by decide +kernel
theorem dX5_renderCitation_58 : decode cX5_renderCitation 58 = .ok (.aload_n 0, 1) := by decide +kernel
theorem dX5_renderCitation_59 : decode cX5_renderCitation 59 = .ok (.iload_n 1, 1) := by decide +kernel
theorem dX5_renderCitation_60 : decode cX5_renderCitation 60 = .ok (.invokevirtual 65, 3) := by decide +kernel
theorem dX5_renderCitation_63 : decode cX5_renderCitation 63 = .ok (.return_, 1) := by decide +kernel
set_option maxRecDepth 20000 in
theorem ggX5_renderEntry_X5_write : GoodIn wsX5_renderEntry wsX5_write := goodIn_r _ [12, 1, 13, 40, 41, 42, 43, 44, 45, 46, 47, 48] (by decide +kernel) (by decide +kernel)
set_option maxRecDepth 20000 in
theorem gX5_renderEntry_X5_write : GoodIn wsX5_renderEntry (wsV RX5 68 RX5 yX5_write wsX5_write) := goodIn_app (goodIn_of _ (by decide +kernel)) ggX5_renderEntry_X5_write
set_option maxRecDepth 20000 in
theorem ggX5_renderEntry_X5_writeDigit : GoodIn wsX5_renderEntry wsX5_writeDigit := goodIn_r _ [17, 8, 9, 10, 11, 12, 1, 13, 40, 41, 42, 43, 44, 45, 46, 47, 48] (by decide +kernel) (by decide +kernel)
set_option maxRecDepth 20000 in
theorem gX5_renderEntry_X5_writeDigit : GoodIn wsX5_renderEntry (wsV RX5 76 RX5 yX5_writeDigit wsX5_writeDigit) := goodIn_app (goodIn_of _ (by decide +kernel)) ggX5_renderEntry_X5_writeDigit
set_option maxRecDepth 20000 in
theorem ggX5_renderEntry_X5_writeAllAuthors : GoodIn wsX5_renderEntry wsX5_writeAllAuthors := goodIn_r _ [21, 6, 22, 23, 24, 25, 11, 26, 27, 28, 8, 9, 10, 12, 1, 13, 40, 41, 42, 43, 44, 45, 46, 47, 48, 64, 65, 66, 67, 68, 69] (by decide +kernel) (by decide +kernel)
set_option maxRecDepth 20000 in
theorem gX5_renderEntry_X5_writeAllAuthors : GoodIn wsX5_renderEntry (wsV RX5 79 RX5 yX5_writeAllAuthors wsX5_writeAllAuthors) := goodIn_app (goodIn_of _ (by decide +kernel)) ggX5_renderEntry_X5_writeAllAuthors
set_option maxRecDepth 20000 in
theorem ggX5_renderEntry_X5_writeYear : GoodIn wsX5_renderEntry wsX5_writeYear := goodIn_r _ [32, 6, 33, 14, 15, 16, 11, 17, 8, 9, 10, 12, 1, 13, 40, 41, 42, 43, 44, 45, 46, 47, 48, 64, 65, 66, 67, 68, 69] (by decide +kernel) (by decide +kernel)
set_option maxRecDepth 20000 in
theorem gX5_renderEntry_X5_writeYear : GoodIn wsX5_renderEntry (wsV RX5 82 RX5 yX5_writeYear wsX5_writeYear) := goodIn_app (goodIn_of _ (by decide +kernel)) ggX5_renderEntry_X5_writeYear
set_option maxRecDepth 20000 in
theorem ggX5_renderEntry_X5_writeSuffix : GoodIn wsX5_renderEntry wsX5_writeSuffix := goodIn_r _ [37, 38, 39, 8, 9, 10, 11, 12, 1, 13, 40, 41, 42, 43, 44, 45, 46, 47, 48, 70, 71, 72, 73, 74, 75, 76, 77] (by decide +kernel) (by decide +kernel)
set_option maxRecDepth 20000 in
theorem gX5_renderEntry_X5_writeSuffix : GoodIn wsX5_renderEntry (wsV RX5 85 RX5 yX5_writeSuffix wsX5_writeSuffix) := goodIn_app (goodIn_of _ (by decide +kernel)) ggX5_renderEntry_X5_writeSuffix
theorem dX5_renderEntry_0 : decode cX5_renderEntry 0 = .ok (.aload_n 0, 1) := by decide +kernel
theorem dX5_renderEntry_1 : decode cX5_renderEntry 1 = .ok (.iconst 0, 1) := by decide +kernel
theorem dX5_renderEntry_2 : decode cX5_renderEntry 2 = .ok (.putfield 9, 3) := by decide +kernel
theorem dX5_renderEntry_5 : decode cX5_renderEntry 5 = .ok (.aload_n 0, 1) := by decide +kernel
theorem dX5_renderEntry_6 : decode cX5_renderEntry 6 = .ok (.getfield 36, 3) := by decide +kernel
theorem dX5_renderEntry_9 : decode cX5_renderEntry 9 = .ok (.getfield 54, 3) := by decide +kernel
theorem dX5_renderEntry_12 : decode cX5_renderEntry 12 = .ok (.iconst 1, 1) := by decide +kernel
theorem dX5_renderEntry_13 : decode cX5_renderEntry 13 = .ok (.if_icmp .ne 28, 3) := by decide +kernel
theorem dX5_renderEntry_16 : decode cX5_renderEntry 16 = .ok (.aload_n 0, 1) := by decide +kernel
theorem dX5_renderEntry_17 : decode cX5_renderEntry 17 = .ok (.bipush 91, 2) := by decide +kernel
theorem dX5_renderEntry_19 : decode cX5_renderEntry 19 = .ok (.invokevirtual 68, 3) := by decide +kernel
theorem dX5_renderEntry_22 : decode cX5_renderEntry 22 = .ok (.aload_n 0, 1) := by decide +kernel
theorem dX5_renderEntry_23 : decode cX5_renderEntry 23 = .ok (.aload_n 0, 1) := by decide +kernel
theorem dX5_renderEntry_24 : decode cX5_renderEntry 24 = .ok (.getfield 42, 3) := by decide +kernel
theorem dX5_renderEntry_27 : decode cX5_renderEntry 27 = .ok (.getfield 71, 3) := by decide +kernel
theorem dX5_renderEntry_30 : decode cX5_renderEntry 30 = .ok (.iload_n 1, 1) := by decide +kernel
theorem dX5_renderEntry_31 : decode cX5_renderEntry 31 = .ok (.iaload, 1) := by decide +kernel
theorem dX5_renderEntry_32 : decode cX5_renderEntry 32 = .ok (.invokevirtual 76, 3) := by decide +kernel
theorem dX5_renderEntry_35 : decode cX5_renderEntry 35 = .ok (.aload_n 0, 1) := by decide +kernel
theorem dX5_renderEntry_36 : decode cX5_renderEntry 36 = .ok (.bipush 93, 2) := by decide +kernel
theorem dX5_renderEntry_38 : decode cX5_renderEntry 38 = .ok (.invokevirtual 68, 3) := by decide +kernel
theorem dX5_renderEntry_41 : decode cX5_renderEntry 41 = .ok (.aload_n 0, 1) := by decide +kernel
theorem dX5_renderEntry_42 : decode cX5_renderEntry 42 = .ok (.iload_n 1, 1) := by decide +kernel
theorem dX5_renderEntry_43 : decode cX5_renderEntry 43 = .ok (.invokevirtual 79, 3) := by decide +kernel
theorem dX5_renderEntry_46 : decode cX5_renderEntry 46 = .ok (.aload_n 0, 1) := by decide +kernel
theorem dX5_renderEntry_47 : decode cX5_renderEntry 47 = .ok (.bipush 40, 2) := by decide +kernel
theorem dX5_renderEntry_49 : decode cX5_renderEntry 49 = .ok (.invokevirtual 68, 3) := by decide +kernel
theorem dX5_renderEntry_52 : decode cX5_renderEntry 52 = .ok (.aload_n 0, 1) := by decide +kernel
theorem dX5_renderEntry_53 : decode cX5_renderEntry 53 = .ok (.iload_n 1, 1) := by decide +kernel
theorem dX5_renderEntry_54 : decode cX5_renderEntry 54 = .ok (.invokevirtual 82, 3) := by decide +kernel
theorem dX5_renderEntry_57 : decode cX5_renderEntry 57 = .ok (.aload_n 0, 1) := by decide +kernel
theorem dX5_renderEntry_58 : decode cX5_renderEntry 58 = .ok (.getfield 36, 3) := by decide +kernel
theorem dX5_renderEntry_61 : decode cX5_renderEntry 61 = .ok (.getfield 54, 3) := by decide +kernel
theorem dX5_renderEntry_64 : decode cX5_renderEntry 64 = .ok (.ifCond .ne 8, 3) := by decide +kernel
theorem dX5_renderEntry_67 : decode cX5_renderEntry 67 = .ok (.aload_n 0, 1) := by decide +kernel
theorem dX5_renderEntry_68 : decode cX5_renderEntry 68 = .ok (.iload_n 1, 1) := by decide +kernel
theorem dX5_renderEntry_69 : decode cX5_renderEntry 69 = .ok (.invokevirtual 85, 3) := by decide +kernel
theorem dX5_renderEntry_72 : decode cX5_renderEntry 72 = .ok (.aload_n 0, 1) := by decide +kernel
theorem dX5_renderEntry_73 : decode cX5_renderEntry 73 = .ok (.bipush 41, 2) := by decide +kernel
theorem dX5_renderEntry_75 : decode cX5_renderEntry 75 = .ok (.invokevirtual 68, 3) := by decide +kernel
theorem dX5_renderEntry_78 : decode cX5_renderEntry 78 = .ok (.aload_n 0, 1) := by decide +kernel
theorem dX5_renderEntry_79 : decode cX5_renderEntry 79 = .ok (.aload_n 0, 1) := by decide +kernel
theorem dX5_renderEntry_80 : decode cX5_renderEntry 80 = .ok (.getfield 31, 3) := by decide +kernel
theorem dX5_renderEntry_83 : decode cX5_renderEntry 83 = .ok (.getfield 88, 3) := by decide +kernel
theorem dX5_renderEntry_86 : decode cX5_renderEntry 86 = .ok (.iload_n 1, 1) := by decide +kernel
theorem dX5_renderEntry_87 : decode cX5_renderEntry 87 = .ok (.iaload, 1) := by decide +kernel
theorem dX5_renderEntry_88 : decode cX5_renderEntry 88 = .ok (.invokevirtual 68, 3) := by decide +kernel
theorem dX5_renderEntry_91 : decode cX5_renderEntry 91 = .ok (.aload_n 0, 1) := by decide +kernel
theorem dX5_renderEntry_92 : decode cX5_renderEntry 92 = .ok (.bipush 46, 2) := by decide +kernel
theorem dX5_renderEntry_94 : decode cX5_renderEntry 94 = .ok (.invokevirtual 68, 3) := by decide +kernel
theorem dX5_renderEntry_97 : decode cX5_renderEntry 97 = .ok (.return_, 1) := by decide +kernel
set_option maxRecDepth 20000 in
theorem ggX5_putInSequence_X1_workAt : GoodIn wsX5_putInSequence wsX1_workAt := goodIn_r _ [14, 15, 46, 47, 48] (by decide +kernel) (by decide +kernel)
set_option maxRecDepth 20000 in
theorem gX5_putInSequence_X1_workAt : GoodIn wsX5_putInSequence (wsV RX5 101 RX1 yX1_workAt wsX1_workAt) := goodIn_app (goodIn_of _ (by decide +kernel)) ggX5_putInSequence_X1_workAt
set_option maxRecDepth 20000 in
theorem ggX5_putInSequence_X5_addToSequence : GoodIn wsX5_putInSequence wsX5_addToSequence := goodIn_r _ [20, 1, 21, 28, 29, 30, 31, 32, 33, 34, 35, 36] (by decide +kernel) (by decide +kernel)
set_option maxRecDepth 20000 in
theorem gX5_putInSequence_X5_addToSequence : GoodIn wsX5_putInSequence (wsV RX5 105 RX5 yX5_addToSequence wsX5_addToSequence) := goodIn_app (goodIn_of _ (by decide +kernel)) ggX5_putInSequence_X5_addToSequence
set_option maxRecDepth 20000 in
theorem ggX5_putInSequence_X1_cites : GoodIn wsX5_putInSequence wsX1_cites := goodIn_r _ [25, 26, 27, 11, 12, 13, 14, 15, 46, 47, 48] (by decide +kernel) (by decide +kernel)
set_option maxRecDepth 20000 in
theorem gX5_putInSequence_X1_cites : GoodIn wsX5_putInSequence (wsV RX5 114 RX1 yX1_cites wsX1_cites) := goodIn_app (goodIn_of _ (by decide +kernel)) ggX5_putInSequence_X1_cites
theorem dX5_putInSequence_0 : decode cX5_putInSequence 0 = .ok (.aload_n 0, 1) := by decide +kernel
theorem dX5_putInSequence_1 : decode cX5_putInSequence 1 = .ok (.iconst 0, 1) := by decide +kernel
theorem dX5_putInSequence_2 : decode cX5_putInSequence 2 = .ok (.putfield 22, 3) := by decide +kernel
theorem dX5_putInSequence_5 : decode cX5_putInSequence 5 = .ok (.aload_n 0, 1) := by decide +kernel
theorem dX5_putInSequence_6 : decode cX5_putInSequence 6 = .ok (.getfield 36, 3) := by decide +kernel
theorem dX5_putInSequence_9 : decode cX5_putInSequence 9 = .ok (.getfield 93, 3) := by decide +kernel
theorem dX5_putInSequence_12 : decode cX5_putInSequence 12 = .ok (.ifCond .ne 38, 3) := by decide +kernel
theorem dX5_putInSequence_15 : decode cX5_putInSequence 15 = .ok (.iconst 0, 1) := by decide +kernel
theorem dX5_putInSequence_16 : decode cX5_putInSequence 16 = .ok (.istore_n 2, 1) := by decide +kernel
theorem dX5_putInSequence_17 : decode cX5_putInSequence 17 = .ok (.iload_n 2, 1) := by decide +kernel
theorem dX5_putInSequence_18 : decode cX5_putInSequence 18 = .ok (.aload_n 0, 1) := by decide +kernel
theorem dX5_putInSequence_19 : decode cX5_putInSequence 19 = .ok (.getfield 41, 3) := by decide +kernel
theorem dX5_putInSequence_22 : decode cX5_putInSequence 22 = .ok (.getfield 96, 3) := by decide +kernel
theorem dX5_putInSequence_25 : decode cX5_putInSequence 25 = .ok (.iload_n 1, 1) := by decide +kernel
theorem dX5_putInSequence_26 : decode cX5_putInSequence 26 = .ok (.iaload, 1) := by decide +kernel
theorem dX5_putInSequence_27 : decode cX5_putInSequence 27 = .ok (.if_icmp .ge 22, 3) := by decide +kernel
theorem dX5_putInSequence_30 : decode cX5_putInSequence 30 = .ok (.aload_n 0, 1) := by decide +kernel
theorem dX5_putInSequence_31 : decode cX5_putInSequence 31 = .ok (.aload_n 0, 1) := by decide +kernel
theorem dX5_putInSequence_32 : decode cX5_putInSequence 32 = .ok (.getfield 41, 3) := by decide +kernel
theorem dX5_putInSequence_35 : decode cX5_putInSequence 35 = .ok (.iload_n 1, 1) := by decide +kernel
theorem dX5_putInSequence_36 : decode cX5_putInSequence 36 = .ok (.iload_n 2, 1) := by decide +kernel
theorem dX5_putInSequence_37 : decode cX5_putInSequence 37 = .ok (.invokevirtual 101, 3) := by decide +kernel
theorem dX5_putInSequence_40 : decode cX5_putInSequence 40 = .ok (.invokevirtual 105, 3) := by decide +kernel
theorem dX5_putInSequence_43 : decode cX5_putInSequence 43 = .ok (.iinc 2 1, 3) := by decide +kernel
theorem dX5_putInSequence_46 : decode cX5_putInSequence 46 = .ok (.goto (-29), 3) := by decide +kernel
theorem dX5_putInSequence_49 : decode cX5_putInSequence 49 = .ok (.return_, 1) := by decide +kernel
theorem dX5_putInSequence_50 : decode cX5_putInSequence 50 = .ok (.iconst 0, 1) := by decide +kernel
theorem dX5_putInSequence_51 : decode cX5_putInSequence 51 = .ok (.istore_n 2, 1) := by decide +kernel
theorem dX5_putInSequence_52 : decode cX5_putInSequence 52 = .ok (.iload_n 2, 1) := by decide +kernel
theorem dX5_putInSequence_53 : decode cX5_putInSequence 53 = .ok (.aload_n 0, 1) := by decide +kernel
theorem dX5_putInSequence_54 : decode cX5_putInSequence 54 = .ok (.getfield 31, 3) := by decide +kernel
theorem dX5_putInSequence_57 : decode cX5_putInSequence 57 = .ok (.getfield 108, 3) := by decide +kernel
theorem dX5_putInSequence_60 : decode cX5_putInSequence 60 = .ok (.if_icmp .ge 42, 3) := by decide +kernel
theorem dX5_putInSequence_63 : decode cX5_putInSequence 63 = .ok (.aload_n 0, 1) := by decide +kernel
theorem dX5_putInSequence_64 : decode cX5_putInSequence 64 = .ok (.getfield 41, 3) := by decide +kernel
theorem dX5_putInSequence_67 : decode cX5_putInSequence 67 = .ok (.iload_n 1, 1) := by decide +kernel
theorem dX5_putInSequence_68 : decode cX5_putInSequence 68 = .ok (.aload_n 0, 1) := by decide +kernel
theorem dX5_putInSequence_69 : decode cX5_putInSequence 69 = .ok (.getfield 42, 3) := by decide +kernel
theorem dX5_putInSequence_72 : decode cX5_putInSequence 72 = .ok (.getfield 111, 3) := by decide +kernel
theorem dX5_putInSequence_75 : decode cX5_putInSequence 75 = .ok (.iload_n 2, 1) := by decide +kernel
theorem dX5_putInSequence_76 : decode cX5_putInSequence 76 = .ok (.iaload, 1) := by decide +kernel
theorem dX5_putInSequence_77 : decode cX5_putInSequence 77 = .ok (.invokevirtual 114, 3) := by decide +kernel
theorem dX5_putInSequence_80 : decode cX5_putInSequence 80 = .ok (.ifCond .eq 16, 3) := by decide +kernel
theorem dX5_putInSequence_83 : decode cX5_putInSequence 83 = .ok (.aload_n 0, 1) := by decide +kernel
theorem dX5_putInSequence_84 : decode cX5_putInSequence 84 = .ok (.aload_n 0, 1) := by decide +kernel
theorem dX5_putInSequence_85 : decode cX5_putInSequence 85 = .ok (.getfield 42, 3) := by decide +kernel
theorem dX5_putInSequence_88 : decode cX5_putInSequence 88 = .ok (.getfield 111, 3) := by decide +kernel
theorem dX5_putInSequence_91 : decode cX5_putInSequence 91 = .ok (.iload_n 2, 1) := by decide +kernel
theorem dX5_putInSequence_92 : decode cX5_putInSequence 92 = .ok (.iaload, 1) := by decide +kernel
theorem dX5_putInSequence_93 : decode cX5_putInSequence 93 = .ok (.invokevirtual 105, 3) := by decide +kernel
theorem dX5_putInSequence_96 : decode cX5_putInSequence 96 = .ok (.iinc 2 1, 3) := by decide +kernel
theorem dX5_putInSequence_99 : decode cX5_putInSequence 99 = .ok (.goto (-47), 3) := by decide +kernel
theorem dX5_putInSequence_102 : decode cX5_putInSequence 102 = .ok (.return_, 1) := by decide +kernel
theorem dX5_addToSequence_0 : decode cX5_addToSequence 0 = .ok (.aload_n 0, 1) := by decide +kernel
theorem dX5_addToSequence_1 : decode cX5_addToSequence 1 = .ok (.getfield 22, 3) := by decide +kernel
theorem dX5_addToSequence_4 : decode cX5_addToSequence 4 = .ok (.iconst 5, 1) := by decide +kernel
theorem dX5_addToSequence_5 : decode cX5_addToSequence 5 = .ok (.if_icmp .ge 23, 3) := by decide +kernel
theorem dX5_addToSequence_8 : decode cX5_addToSequence 8 = .ok (.aload_n 0, 1) := by decide +kernel
theorem dX5_addToSequence_9 : decode cX5_addToSequence 9 = .ok (.getfield 19, 3) := by decide +kernel
theorem dX5_addToSequence_12 : decode cX5_addToSequence 12 = .ok (.aload_n 0, 1) := by decide +kernel
theorem dX5_addToSequence_13 : decode cX5_addToSequence 13 = .ok (.getfield 22, 3) := by decide +kernel
theorem dX5_addToSequence_16 : decode cX5_addToSequence 16 = .ok (.iload_n 1, 1) := by decide +kernel
theorem dX5_addToSequence_17 : decode cX5_addToSequence 17 = .ok (.iastore, 1) := by decide +kernel
theorem dX5_addToSequence_18 : decode cX5_addToSequence 18 = .ok (.aload_n 0, 1) := by decide +kernel
theorem dX5_addToSequence_19 : decode cX5_addToSequence 19 = .ok (.dup, 1) := by decide +kernel
theorem dX5_addToSequence_20 : decode cX5_addToSequence 20 = .ok (.getfield 22, 3) := by decide +kernel
theorem dX5_addToSequence_23 : decode cX5_addToSequence 23 = .ok (.iconst 1, 1) := by decide +kernel
theorem dX5_addToSequence_24 : decode cX5_addToSequence 24 = .ok (.iadd, 1) := by decide +kernel
theorem dX5_addToSequence_25 : decode cX5_addToSequence 25 = .ok (.putfield 22, 3) := by decide +kernel
theorem dX5_addToSequence_28 : decode cX5_addToSequence 28 = .ok (.return_, 1) := by decide +kernel
set_option maxRecDepth 20000 in
theorem ggX5_writeAuthorYear_X5_write : GoodIn wsX5_writeAuthorYear wsX5_write := goodIn_r _ [7, 8, 9, 65, 66, 67, 68, 69, 70, 71, 72, 73] (by decide +kernel) (by decide +kernel)
set_option maxRecDepth 20000 in
theorem gX5_writeAuthorYear_X5_write : GoodIn wsX5_writeAuthorYear (wsV RX5 68 RX5 yX5_write wsX5_write) := goodIn_app (goodIn_of _ (by decide +kernel)) ggX5_writeAuthorYear_X5_write
set_option maxRecDepth 20000 in
theorem ggX5_writeAuthorYear_X5_collapsesNames : GoodIn wsX5_writeAuthorYear wsX5_collapsesNames := goodIn_r _ [13, 14, 15, 16, 17, 18, 19, 20, 21, 22, 65, 66, 67, 68, 69, 70, 71, 72, 73, 74, 75, 76, 77, 78, 79, 80, 81, 82, 83, 84, 85, 86, 87, 88, 89, 90] (by decide +kernel) (by decide +kernel)
set_option maxRecDepth 20000 in
theorem gX5_writeAuthorYear_X5_collapsesNames : GoodIn wsX5_writeAuthorYear (wsV RX5 118 RX5 yX5_collapsesNames wsX5_collapsesNames) := goodIn_app (goodIn_of _ (by decide +kernel)) ggX5_writeAuthorYear_X5_collapsesNames
set_option maxRecDepth 20000 in
theorem ggX5_writeAuthorYear_X5_writeCollapsed : GoodIn wsX5_writeAuthorYear wsX5_writeCollapsed := goodIn_r _ [26, 14, 15, 16, 27, 28, 29, 30, 31, 32, 6, 33, 34, 35, 36, 37, 3, 4, 5, 7, 8, 9, 38, 39, 40, 41, 65, 66, 67, 68, 69, 70, 71, 72, 73, 74, 75, 76, 77, 78, 79, 80, 81, 82, 83, 84, 85, 86, 87, 88, 89, 90, 91, 92, 93, 94, 95, 96] (by decide +kernel) (by decide +kernel)
set_option maxRecDepth 20000 in
theorem gX5_writeAuthorYear_X5_writeCollapsed : GoodIn wsX5_writeAuthorYear (wsV RX5 121 RX5 yX5_writeCollapsed wsX5_writeCollapsed) := goodIn_app (goodIn_of _ (by decide +kernel)) ggX5_writeAuthorYear_X5_writeCollapsed
set_option maxRecDepth 20000 in
theorem ggX5_writeAuthorYear_X5_writeLabel : GoodIn wsX5_writeAuthorYear wsX5_writeLabel := goodIn_r _ [45, 46, 47, 48, 6, 49, 16, 50, 51, 52, 53, 54, 55, 28, 56, 57, 3, 4, 5, 7, 8, 9, 58, 59, 60, 20, 61, 62, 63, 64, 30, 31, 32, 33, 29, 34, 35, 36, 37, 38, 39, 40, 41, 27, 65, 66, 67, 68, 69, 70, 71, 72, 73, 83, 84, 85, 86, 87, 88, 89, 90, 91, 92, 93, 94, 95, 96] (by decide +kernel) (by decide +kernel)
set_option maxRecDepth 20000 in
theorem gX5_writeAuthorYear_X5_writeLabel : GoodIn wsX5_writeAuthorYear (wsV RX5 125 RX5 yX5_writeLabel wsX5_writeLabel) := goodIn_app (goodIn_of _ (by decide +kernel)) ggX5_writeAuthorYear_X5_writeLabel
theorem dX5_writeAuthorYear_0 : decode cX5_writeAuthorYear 0 = .ok (.aload_n 0, 1) := by decide +kernel
theorem dX5_writeAuthorYear_1 : decode cX5_writeAuthorYear 1 = .ok (.bipush 40, 2) := by decide +kernel
theorem dX5_writeAuthorYear_3 : decode cX5_writeAuthorYear 3 = .ok (.invokevirtual 68, 3) := by decide +kernel
theorem dX5_writeAuthorYear_6 : decode cX5_writeAuthorYear 6 = .ok (.iconst 0, 1) := by decide +kernel
theorem dX5_writeAuthorYear_7 : decode cX5_writeAuthorYear 7 = .ok (.istore_n 1, 1) := by decide +kernel
theorem dX5_writeAuthorYear_8 : decode cX5_writeAuthorYear 8 = .ok (.iload_n 1, 1) := by decide +kernel
theorem dX5_writeAuthorYear_9 : decode cX5_writeAuthorYear 9 = .ok (.aload_n 0, 1) := by decide +kernel
theorem dX5_writeAuthorYear_10 : decode cX5_writeAuthorYear 10 = .ok (.getfield 22, 3) := by decide +kernel
theorem dX5_writeAuthorYear_13 : decode cX5_writeAuthorYear 13 = .ok (.if_icmp .ge 73, 3) := by decide +kernel
theorem dX5_writeAuthorYear_16 : decode cX5_writeAuthorYear 16 = .ok (.aload_n 0, 1) := by decide +kernel
theorem dX5_writeAuthorYear_17 : decode cX5_writeAuthorYear 17 = .ok (.getfield 19, 3) := by decide +kernel
theorem dX5_writeAuthorYear_20 : decode cX5_writeAuthorYear 20 = .ok (.iload_n 1, 1) := by decide +kernel
theorem dX5_writeAuthorYear_21 : decode cX5_writeAuthorYear 21 = .ok (.iaload, 1) := by decide +kernel
theorem dX5_writeAuthorYear_22 : decode cX5_writeAuthorYear 22 = .ok (.istore_n 2, 1) := by decide +kernel
theorem dX5_writeAuthorYear_23 : decode cX5_writeAuthorYear 23 = .ok (.iload_n 1, 1) := by decide +kernel
theorem dX5_writeAuthorYear_24 : decode cX5_writeAuthorYear 24 = .ok (.ifCond .le 41, 3) := by decide +kernel
theorem dX5_writeAuthorYear_27 : decode cX5_writeAuthorYear 27 = .ok (.aload_n 0, 1) := by decide +kernel
theorem dX5_writeAuthorYear_28 : decode cX5_writeAuthorYear 28 = .ok (.aload_n 0, 1) := by decide +kernel
theorem dX5_writeAuthorYear_29 : decode cX5_writeAuthorYear 29 = .ok (.getfield 19, 3) := by decide +kernel
theorem dX5_writeAuthorYear_32 : decode cX5_writeAuthorYear 32 = .ok (.iload_n 1, 1) := by decide +kernel
theorem dX5_writeAuthorYear_33 : decode cX5_writeAuthorYear 33 = .ok (.iconst 1, 1) := by decide +kernel
theorem dX5_writeAuthorYear_34 : decode cX5_writeAuthorYear 34 = .ok (.isub, 1) := by decide +kernel
theorem dX5_writeAuthorYear_35 : decode cX5_writeAuthorYear 35 = .ok (.iaload, 1) := by decide +kernel
theorem dX5_writeAuthorYear_36 : decode cX5_writeAuthorYear 36 = .ok (.iload_n 2, 1) := by decide +kernel
theorem dX5_writeAuthorYear_37 : decode cX5_writeAuthorYear 37 = .ok (.invokevirtual 118, 3) := by decide +kernel
theorem dX5_writeAuthorYear_40 : decode cX5_writeAuthorYear 40 = .ok (.ifCond .eq 25, 3) := by decide +kernel
theorem dX5_writeAuthorYear_43 : decode cX5_writeAuthorYear 43 = .ok (.aload_n 0, 1) := by decide +kernel
theorem dX5_writeAuthorYear_44 : decode cX5_writeAuthorYear 44 = .ok (.bipush 44, 2) := by decide +kernel
theorem dX5_writeAuthorYear_46 : decode cX5_writeAuthorYear 46 = .ok (.invokevirtual 68, 3) := by decide +kernel
theorem dX5_writeAuthorYear_49 : decode cX5_writeAuthorYear 49 = .ok (.aload_n 0, 1) := by decide +kernel
theorem dX5_writeAuthorYear_50 : decode cX5_writeAuthorYear 50 = .ok (.aload_n 0, 1) := by decide +kernel
theorem dX5_writeAuthorYear_51 : decode cX5_writeAuthorYear 51 = .ok (.getfield 19, 3) := by decide +kernel
theorem dX5_writeAuthorYear_54 : decode cX5_writeAuthorYear 54 = .ok (.iload_n 1, 1) := by decide +kernel
theorem dX5_writeAuthorYear_55 : decode cX5_writeAuthorYear 55 = .ok (.iconst 1, 1) := by decide +kernel
theorem dX5_writeAuthorYear_56 : decode cX5_writeAuthorYear 56 = .ok (.isub, 1) := by decide +kernel
theorem dX5_writeAuthorYear_57 : decode cX5_writeAuthorYear 57 = .ok (.iaload, 1) := by decide +kernel
theorem dX5_writeAuthorYear_58 : decode cX5_writeAuthorYear 58 = .ok (.iload_n 2, 1) := by decide +kernel
theorem dX5_writeAuthorYear_59 : decode cX5_writeAuthorYear 59 = .ok (.invokevirtual 121, 3) := by decide +kernel
theorem dX5_writeAuthorYear_62 : decode cX5_writeAuthorYear 62 = .ok (.goto 18, 3) := by decide +kernel
theorem dX5_writeAuthorYear_65 : decode cX5_writeAuthorYear 65 = .ok (.iload_n 1, 1) := by decide +kernel
theorem dX5_writeAuthorYear_66 : decode cX5_writeAuthorYear 66 = .ok (.ifCond .le 9, 3) := by decide +kernel
theorem dX5_writeAuthorYear_69 : decode cX5_writeAuthorYear 69 = .ok (.aload_n 0, 1) := by decide +kernel
theorem dX5_writeAuthorYear_70 : decode cX5_writeAuthorYear 70 = .ok (.bipush 59, 2) := by decide +kernel
theorem dX5_writeAuthorYear_72 : decode cX5_writeAuthorYear 72 = .ok (.invokevirtual 68, 3) := by decide +kernel
theorem dX5_writeAuthorYear_75 : decode cX5_writeAuthorYear 75 = .ok (.aload_n 0, 1) := by decide +kernel
theorem dX5_writeAuthorYear_76 : decode cX5_writeAuthorYear 76 = .ok (.iload_n 2, 1) := by decide +kernel
theorem dX5_writeAuthorYear_77 : decode cX5_writeAuthorYear 77 = .ok (.invokevirtual 125, 3) := by decide +kernel
theorem dX5_writeAuthorYear_80 : decode cX5_writeAuthorYear 80 = .ok (.iinc 1 1, 3) := by decide +kernel
theorem dX5_writeAuthorYear_83 : decode cX5_writeAuthorYear 83 = .ok (.goto (-75), 3) := by decide +kernel
theorem dX5_writeAuthorYear_86 : decode cX5_writeAuthorYear 86 = .ok (.aload_n 0, 1) := by decide +kernel
theorem dX5_writeAuthorYear_87 : decode cX5_writeAuthorYear 87 = .ok (.bipush 41, 2) := by decide +kernel
theorem dX5_writeAuthorYear_89 : decode cX5_writeAuthorYear 89 = .ok (.invokevirtual 68, 3) := by decide +kernel
theorem dX5_writeAuthorYear_92 : decode cX5_writeAuthorYear 92 = .ok (.return_, 1) := by decide +kernel
set_option maxRecDepth 20000 in
theorem ggX5_collapsesNames_X3_sameNames : GoodIn wsX5_collapsesNames wsX3_sameNames := goodIn_r _ [8, 9, 28, 29, 30, 31, 32, 33, 34, 35] (by decide +kernel) (by decide +kernel)
set_option maxRecDepth 20000 in
theorem gX5_collapsesNames_X3_sameNames : GoodIn wsX5_collapsesNames (wsV RX5 131 RX3 yX3_sameNames wsX3_sameNames) := goodIn_app (goodIn_of _ (by decide +kernel)) ggX5_collapsesNames_X3_sameNames
theorem dX5_collapsesNames_0 : decode cX5_collapsesNames 0 = .ok (.aload_n 0, 1) := by decide +kernel
theorem dX5_collapsesNames_1 : decode cX5_collapsesNames 1 = .ok (.getfield 36, 3) := by decide +kernel
theorem dX5_collapsesNames_4 : decode cX5_collapsesNames 4 = .ok (.getfield 128, 3) := by decide +kernel
theorem dX5_collapsesNames_7 : decode cX5_collapsesNames 7 = .ok (.ifCond .le 19, 3) := by decide +kernel
theorem dX5_collapsesNames_10 : decode cX5_collapsesNames 10 = .ok (.aload_n 0, 1) := by decide +kernel
theorem dX5_collapsesNames_11 : decode cX5_collapsesNames 11 = .ok (.getfield 46, 3) := by decide +kernel
theorem dX5_collapsesNames_14 : decode cX5_collapsesNames 14 = .ok (.iload_n 1, 1) := by decide +kernel
theorem dX5_collapsesNames_15 : decode cX5_collapsesNames 15 = .ok (.iload_n 2, 1) := by decide +kernel
theorem dX5_collapsesNames_16 : decode cX5_collapsesNames 16 = .ok (.invokevirtual 131, 3) := by decide +kernel
theorem dX5_collapsesNames_19 : decode cX5_collapsesNames 19 = .ok (.ifCond .eq 7, 3) := by decide +kernel
theorem dX5_collapsesNames_22 : decode cX5_collapsesNames 22 = .ok (.iconst 1, 1) := by decide +kernel
theorem dX5_collapsesNames_23 : decode cX5_collapsesNames 23 = .ok (.goto 4, 3) := by decide +kernel
theorem dX5_collapsesNames_26 : decode cX5_collapsesNames 26 = .ok (.iconst 0, 1) := by decide +kernel
theorem dX5_collapsesNames_27 : decode cX5_collapsesNames 27 = .ok (.ireturn, 1) := by decide +kernel
set_option maxRecDepth 20000 in
theorem ggX5_writeCollapsed_X5_writeYear : GoodIn wsX5_writeCollapsed wsX5_writeYear := goodIn_r _ [11, 5, 6, 12, 13, 14, 10, 15, 16, 17, 18, 19, 20, 21, 26, 27, 28, 29, 30, 31, 32, 33, 34, 52, 53, 54, 55, 56, 57] (by decide +kernel) (by decide +kernel)
set_option maxRecDepth 20000 in
theorem gX5_writeCollapsed_X5_writeYear : GoodIn wsX5_writeCollapsed (wsV RX5 82 RX5 yX5_writeYear wsX5_writeYear) := goodIn_app (goodIn_of _ (by decide +kernel)) ggX5_writeCollapsed_X5_writeYear
set_option maxRecDepth 20000 in
theorem ggX5_writeCollapsed_X5_writeSuffix : GoodIn wsX5_writeCollapsed wsX5_writeSuffix := goodIn_r _ [25, 3, 4, 16, 17, 18, 10, 19, 20, 21, 26, 27, 28, 29, 30, 31, 32, 33, 34, 44, 45, 46, 47, 48, 49, 50, 51] (by decide +kernel) (by decide +kernel)
set_option maxRecDepth 20000 in
theorem gX5_writeCollapsed_X5_writeSuffix : GoodIn wsX5_writeCollapsed (wsV RX5 85 RX5 yX5_writeSuffix wsX5_writeSuffix) := goodIn_app (goodIn_of _ (by decide +kernel)) ggX5_writeCollapsed_X5_writeSuffix
theorem dX5_writeCollapsed_0 : decode cX5_writeCollapsed 0 = .ok (.aload_n 0, 1) := by decide +kernel
theorem dX5_writeCollapsed_1 : decode cX5_writeCollapsed 1 = .ok (.getfield 36, 3) := by decide +kernel
theorem dX5_writeCollapsed_4 : decode cX5_writeCollapsed 4 = .ok (.getfield 128, 3) := by decide +kernel
theorem dX5_writeCollapsed_7 : decode cX5_writeCollapsed 7 = .ok (.iconst 2, 1) := by decide +kernel
theorem dX5_writeCollapsed_8 : decode cX5_writeCollapsed 8 = .ok (.if_icmp .ne 40, 3) := by decide +kernel
theorem dX5_writeCollapsed_11 : decode cX5_writeCollapsed 11 = .ok (.aload_n 0, 1) := by decide +kernel
theorem dX5_writeCollapsed_12 : decode cX5_writeCollapsed 12 = .ok (.getfield 46, 3) := by decide +kernel
theorem dX5_writeCollapsed_15 : decode cX5_writeCollapsed 15 = .ok (.getfield 136, 3) := by decide +kernel
theorem dX5_writeCollapsed_18 : decode cX5_writeCollapsed 18 = .ok (.iload_n 2, 1) := by decide +kernel
theorem dX5_writeCollapsed_19 : decode cX5_writeCollapsed 19 = .ok (.iaload, 1) := by decide +kernel
theorem dX5_writeCollapsed_20 : decode cX5_writeCollapsed 20 = .ok (.ifCond .eq 28, 3) := by decide +kernel
theorem dX5_writeCollapsed_23 : decode cX5_writeCollapsed 23 = .ok (.aload_n 0, 1) := by decide +kernel
theorem dX5_writeCollapsed_24 : decode cX5_writeCollapsed 24 = .ok (.getfield 31, 3) := by decide +kernel
theorem dX5_writeCollapsed_27 : decode cX5_writeCollapsed 27 = .ok (.getfield 139, 3) := by decide +kernel
theorem dX5_writeCollapsed_30 : decode cX5_writeCollapsed 30 = .ok (.iload_n 1, 1) := by decide +kernel
theorem dX5_writeCollapsed_31 : decode cX5_writeCollapsed 31 = .ok (.iaload, 1) := by decide +kernel
theorem dX5_writeCollapsed_32 : decode cX5_writeCollapsed 32 = .ok (.aload_n 0, 1) := by decide +kernel
theorem dX5_writeCollapsed_33 : decode cX5_writeCollapsed 33 = .ok (.getfield 31, 3) := by decide +kernel
theorem dX5_writeCollapsed_36 : decode cX5_writeCollapsed 36 = .ok (.getfield 139, 3) := by decide +kernel
theorem dX5_writeCollapsed_39 : decode cX5_writeCollapsed 39 = .ok (.iload_n 2, 1) := by decide +kernel
theorem dX5_writeCollapsed_40 : decode cX5_writeCollapsed 40 = .ok (.iaload, 1) := by decide +kernel
theorem dX5_writeCollapsed_41 : decode cX5_writeCollapsed 41 = .ok (.if_icmp .ne 7, 3) := by decide +kernel
theorem dX5_writeCollapsed_44 : decode cX5_writeCollapsed 44 = .ok (.iconst 1, 1) := by decide +kernel
theorem dX5_writeCollapsed_45 : decode cX5_writeCollapsed 45 = .ok (.goto 4, 3) := by decide +kernel
theorem dX5_writeCollapsed_48 : decode cX5_writeCollapsed 48 = .ok (.iconst 0, 1) := by decide +kernel
theorem dX5_writeCollapsed_49 : decode cX5_writeCollapsed 49 = .ok (.istore_n 3, 1) := by decide +kernel
theorem dX5_writeCollapsed_50 : decode cX5_writeCollapsed 50 = .ok (.iload_n 3, 1) := by decide +kernel
theorem dX5_writeCollapsed_51 : decode cX5_writeCollapsed 51 = .ok (.ifCond .ne 8, 3) := by decide +kernel
theorem dX5_writeCollapsed_54 : decode cX5_writeCollapsed 54 = .ok (.aload_n 0, 1) := by decide +kernel
theorem dX5_writeCollapsed_55 : decode cX5_writeCollapsed 55 = .ok (.iload_n 2, 1) := by decide +kernel
theorem dX5_writeCollapsed_56 : decode cX5_writeCollapsed 56 = .ok (.invokevirtual 82, 3) := by decide +kernel
theorem dX5_writeCollapsed_59 : decode cX5_writeCollapsed 59 = .ok (.aload_n 0, 1) := by decide +kernel
theorem dX5_writeCollapsed_60 : decode cX5_writeCollapsed 60 = .ok (.iload_n 2, 1) := by decide +kernel
theorem dX5_writeCollapsed_61 : decode cX5_writeCollapsed 61 = .ok (.invokevirtual 85, 3) := by decide +kernel
theorem dX5_writeCollapsed_64 : decode cX5_writeCollapsed 64 = .ok (.return_, 1) := by decide +kernel
set_option maxRecDepth 20000 in
theorem ggX5_writeNumeric_X5_write : GoodIn wsX5_writeNumeric wsX5_write := goodIn_r _ [8, 9, 10, 26, 27, 28, 29, 30, 31, 32, 33, 34] (by decide +kernel) (by decide +kernel)
set_option maxRecDepth 20000 in
theorem gX5_writeNumeric_X5_write : GoodIn wsX5_writeNumeric (wsV RX5 68 RX5 yX5_write wsX5_write) := goodIn_app (goodIn_of _ (by decide +kernel)) ggX5_writeNumeric_X5_write
set_option maxRecDepth 20000 in
theorem ggX5_writeNumeric_X5_numberAt : GoodIn wsX5_writeNumeric wsX5_numberAt := goodIn_r _ [14, 15, 16, 17, 26, 27, 28, 29, 30, 31, 32, 33, 34, 44, 45, 46, 47, 48, 49] (by decide +kernel) (by decide +kernel)
set_option maxRecDepth 20000 in
theorem gX5_writeNumeric_X5_numberAt : GoodIn wsX5_writeNumeric (wsV RX5 142 RX5 yX5_numberAt wsX5_numberAt) := goodIn_app (goodIn_of _ (by decide +kernel)) ggX5_writeNumeric_X5_numberAt
set_option maxRecDepth 20000 in
theorem ggX5_writeNumeric_X5_writeDigit : GoodIn wsX5_writeNumeric wsX5_writeDigit := goodIn_r _ [21, 4, 5, 6, 7, 8, 9, 10, 26, 27, 28, 29, 30, 31, 32, 33, 34] (by decide +kernel) (by decide +kernel)
set_option maxRecDepth 20000 in
theorem gX5_writeNumeric_X5_writeDigit : GoodIn wsX5_writeNumeric (wsV RX5 76 RX5 yX5_writeDigit wsX5_writeDigit) := goodIn_app (goodIn_of _ (by decide +kernel)) ggX5_writeNumeric_X5_writeDigit
set_option maxRecDepth 20000 in
theorem ggX5_writeNumeric_X5_runEnd : GoodIn wsX5_writeNumeric wsX5_runEnd := goodIn_r _ [25, 1, 11, 12, 13, 7, 14, 15, 16, 17, 26, 27, 28, 29, 30, 31, 32, 33, 34, 44, 45, 46, 47, 48, 49] (by decide +kernel) (by decide +kernel)
set_option maxRecDepth 20000 in
theorem gX5_writeNumeric_X5_runEnd : GoodIn wsX5_writeNumeric (wsV RX5 146 RX5 yX5_runEnd wsX5_runEnd) := goodIn_app (goodIn_of _ (by decide +kernel)) ggX5_writeNumeric_X5_runEnd
theorem dX5_writeNumeric_0 : decode cX5_writeNumeric 0 = .ok (.aload_n 0, 1) := by decide +kernel
theorem dX5_writeNumeric_1 : decode cX5_writeNumeric 1 = .ok (.bipush 91, 2) := by decide +kernel
theorem dX5_writeNumeric_3 : decode cX5_writeNumeric 3 = .ok (.invokevirtual 68, 3) := by decide +kernel
theorem dX5_writeNumeric_6 : decode cX5_writeNumeric 6 = .ok (.iconst 0, 1) := by decide +kernel
theorem dX5_writeNumeric_7 : decode cX5_writeNumeric 7 = .ok (.istore_n 1, 1) := by decide +kernel
theorem dX5_writeNumeric_8 : decode cX5_writeNumeric 8 = .ok (.iload_n 1, 1) := by decide +kernel
theorem dX5_writeNumeric_9 : decode cX5_writeNumeric 9 = .ok (.aload_n 0, 1) := by decide +kernel
theorem dX5_writeNumeric_10 : decode cX5_writeNumeric 10 = .ok (.getfield 22, 3) := by decide +kernel
theorem dX5_writeNumeric_13 : decode cX5_writeNumeric 13 = .ok (.if_icmp .ge 72, 3) := by decide +kernel
theorem dX5_writeNumeric_16 : decode cX5_writeNumeric 16 = .ok (.iload_n 1, 1) := by decide +kernel
theorem dX5_writeNumeric_17 : decode cX5_writeNumeric 17 = .ok (.ifCond .le 9, 3) := by decide +kernel
theorem dX5_writeNumeric_20 : decode cX5_writeNumeric 20 = .ok (.aload_n 0, 1) := by decide +kernel
theorem dX5_writeNumeric_21 : decode cX5_writeNumeric 21 = .ok (.bipush 44, 2) := by decide +kernel
theorem dX5_writeNumeric_23 : decode cX5_writeNumeric 23 = .ok (.invokevirtual 68, 3) := by decide +kernel
theorem dX5_writeNumeric_26 : decode cX5_writeNumeric 26 = .ok (.aload_n 0, 1) := by decide +kernel
theorem dX5_writeNumeric_27 : decode cX5_writeNumeric 27 = .ok (.aload_n 0, 1) := by decide +kernel
theorem dX5_writeNumeric_28 : decode cX5_writeNumeric 28 = .ok (.iload_n 1, 1) := by decide +kernel
theorem dX5_writeNumeric_29 : decode cX5_writeNumeric 29 = .ok (.invokevirtual 142, 3) := by decide +kernel
theorem dX5_writeNumeric_32 : decode cX5_writeNumeric 32 = .ok (.invokevirtual 76, 3) := by decide +kernel
theorem dX5_writeNumeric_35 : decode cX5_writeNumeric 35 = .ok (.aload_n 0, 1) := by decide +kernel
theorem dX5_writeNumeric_36 : decode cX5_writeNumeric 36 = .ok (.getfield 36, 3) := by decide +kernel
theorem dX5_writeNumeric_39 : decode cX5_writeNumeric 39 = .ok (.getfield 128, 3) := by decide +kernel
theorem dX5_writeNumeric_42 : decode cX5_writeNumeric 42 = .ok (.ifCond .ne 7, 3) := by decide +kernel
theorem dX5_writeNumeric_45 : decode cX5_writeNumeric 45 = .ok (.iload_n 1, 1) := by decide +kernel
theorem dX5_writeNumeric_46 : decode cX5_writeNumeric 46 = .ok (.goto 8, 3) := by decide +kernel
theorem dX5_writeNumeric_49 : decode cX5_writeNumeric 49 = .ok (.aload_n 0, 1) := by decide +kernel
theorem dX5_writeNumeric_50 : decode cX5_writeNumeric 50 = .ok (.iload_n 1, 1) := by decide +kernel
theorem dX5_writeNumeric_51 : decode cX5_writeNumeric 51 = .ok (.invokevirtual 146, 3) := by decide +kernel
theorem dX5_writeNumeric_54 : decode cX5_writeNumeric 54 = .ok (.istore_n 2, 1) := by decide +kernel
theorem dX5_writeNumeric_55 : decode cX5_writeNumeric 55 = .ok (.iload_n 2, 1) := by decide +kernel
theorem dX5_writeNumeric_56 : decode cX5_writeNumeric 56 = .ok (.iload_n 1, 1) := by decide +kernel
theorem dX5_writeNumeric_57 : decode cX5_writeNumeric 57 = .ok (.isub, 1) := by decide +kernel
theorem dX5_writeNumeric_58 : decode cX5_writeNumeric 58 = .ok (.iconst 2, 1) := by decide +kernel
theorem dX5_writeNumeric_59 : decode cX5_writeNumeric 59 = .ok (.if_icmp .lt 20, 3) := by decide +kernel
theorem dX5_writeNumeric_62 : decode cX5_writeNumeric 62 = .ok (.aload_n 0, 1) := by decide +kernel
theorem dX5_writeNumeric_63 : decode cX5_writeNumeric 63 = .ok (.bipush 45, 2) := by decide +kernel
theorem dX5_writeNumeric_65 : decode cX5_writeNumeric 65 = .ok (.invokevirtual 68, 3) := by decide +kernel
theorem dX5_writeNumeric_68 : decode cX5_writeNumeric 68 = .ok (.aload_n 0, 1) := by decide +kernel
theorem dX5_writeNumeric_69 : decode cX5_writeNumeric 69 = .ok (.aload_n 0, 1) := by decide +kernel
theorem dX5_writeNumeric_70 : decode cX5_writeNumeric 70 = .ok (.iload_n 2, 1) := by decide +kernel
theorem dX5_writeNumeric_71 : decode cX5_writeNumeric 71 = .ok (.invokevirtual 142, 3) := by decide +kernel
theorem dX5_writeNumeric_74 : decode cX5_writeNumeric 74 = .ok (.invokevirtual 76, 3) := by decide +kernel
theorem dX5_writeNumeric_77 : decode cX5_writeNumeric 77 = .ok (.iload_n 2, 1) := by decide +kernel
theorem dX5_writeNumeric_78 : decode cX5_writeNumeric 78 = .ok (.istore_n 1, 1) := by decide +kernel
theorem dX5_writeNumeric_79 : decode cX5_writeNumeric 79 = .ok (.iinc 1 1, 3) := by decide +kernel
theorem dX5_writeNumeric_82 : decode cX5_writeNumeric 82 = .ok (.goto (-74), 3) := by decide +kernel
theorem dX5_writeNumeric_85 : decode cX5_writeNumeric 85 = .ok (.aload_n 0, 1) := by decide +kernel
theorem dX5_writeNumeric_86 : decode cX5_writeNumeric 86 = .ok (.bipush 93, 2) := by decide +kernel
theorem dX5_writeNumeric_88 : decode cX5_writeNumeric 88 = .ok (.invokevirtual 68, 3) := by decide +kernel
theorem dX5_writeNumeric_91 : decode cX5_writeNumeric 91 = .ok (.return_, 1) := by decide +kernel
