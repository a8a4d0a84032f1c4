theorem dX5_numberAt_0 : decode cX5_numberAt 0 = .ok (.aload_n 0, 1) := by decide +kernel
theorem dX5_numberAt_1 : decode cX5_numberAt 1 = .ok (.getfield 42, 3) := by decide +kernel
theorem dX5_numberAt_4 : decode cX5_numberAt 4 = .ok (.getfield 71, 3) := by decide +kernel
theorem dX5_numberAt_7 : decode cX5_numberAt 7 = .ok (.aload_n 0, 1) := by decide +kernel
theorem dX5_numberAt_8 : decode cX5_numberAt 8 = .ok (.getfield 19, 3) := by decide +kernel
theorem dX5_numberAt_11 : decode cX5_numberAt 11 = .ok (.iload_n 1, 1) := by decide +kernel
theorem dX5_numberAt_12 : decode cX5_numberAt 12 = .ok (.iaload, 1) := by decide +kernel
theorem dX5_numberAt_13 : decode cX5_numberAt 13 = .ok (.iaload, 1) := by decide +kernel
theorem dX5_numberAt_14 : decode cX5_numberAt 14 = .ok (.ireturn, 1) := by decide +kernel
set_option maxRecDepth 20000 in
theorem ggX5_runEnd_X5_numberAt : GoodIn wsX5_runEnd wsX5_numberAt := goodIn_r _ [6, 7, 8, 9, 10, 11, 12, 13, 14, 15, 16, 17, 18, 19, 20, 21, 22, 23, 24] (by decide +kernel) (by decide +kernel)
set_option maxRecDepth 20000 in
theorem gX5_runEnd_X5_numberAt : GoodIn wsX5_runEnd (wsV RX5 142 RX5 yX5_numberAt wsX5_numberAt) := goodIn_app (goodIn_of _ (by decide +kernel)) ggX5_runEnd_X5_numberAt
theorem dX5_runEnd_0 : decode cX5_runEnd 0 = .ok (.iload_n 1, 1) := by decide +kernel
theorem dX5_runEnd_1 : decode cX5_runEnd 1 = .ok (.istore_n 2, 1) := by decide +kernel
theorem dX5_runEnd_2 : decode cX5_runEnd 2 = .ok (.iload_n 2, 1) := by decide +kernel
theorem dX5_runEnd_3 : decode cX5_runEnd 3 = .ok (.iconst 1, 1) := by decide +kernel
theorem dX5_runEnd_4 : decode cX5_runEnd 4 = .ok (.iadd, 1) := by decide +kernel
theorem dX5_runEnd_5 : decode cX5_runEnd 5 = .ok (.aload_n 0, 1) := by decide +kernel
theorem dX5_runEnd_6 : decode cX5_runEnd 6 = .ok (.getfield 22, 3) := by decide +kernel
theorem dX5_runEnd_9 : decode cX5_runEnd 9 = .ok (.if_icmp .ge 26, 3) := by decide +kernel
theorem dX5_runEnd_12 : decode cX5_runEnd 12 = .ok (.aload_n 0, 1) := by decide +kernel
theorem dX5_runEnd_13 : decode cX5_runEnd 13 = .ok (.iload_n 2, 1) := by decide +kernel
theorem dX5_runEnd_14 : decode cX5_runEnd 14 = .ok (.iconst 1, 1) := by decide +kernel
theorem dX5_runEnd_15 : decode cX5_runEnd 15 = .ok (.iadd, 1) := by decide +kernel
theorem dX5_runEnd_16 : decode cX5_runEnd 16 = .ok (.invokevirtual 142, 3) := by decide +kernel
theorem dX5_runEnd_19 : decode cX5_runEnd 19 = .ok (.aload_n 0, 1) := by decide +kernel
theorem dX5_runEnd_20 : decode cX5_runEnd 20 = .ok (.iload_n 2, 1) := by decide +kernel
theorem dX5_runEnd_21 : decode cX5_runEnd 21 = .ok (.invokevirtual 142, 3) := by decide +kernel
theorem dX5_runEnd_24 : decode cX5_runEnd 24 = .ok (.iconst 1, 1) := by decide +kernel
theorem dX5_runEnd_25 : decode cX5_runEnd 25 = .ok (.iadd, 1) := by decide +kernel
theorem dX5_runEnd_26 : decode cX5_runEnd 26 = .ok (.if_icmp .ne 9, 3) := by decide +kernel
theorem dX5_runEnd_29 : decode cX5_runEnd 29 = .ok (.iinc 2 1, 3) := by decide +kernel
theorem dX5_runEnd_32 : decode cX5_runEnd 32 = .ok (.goto (-30), 3) := by decide +kernel
theorem dX5_runEnd_35 : decode cX5_runEnd 35 = .ok (.iload_n 2, 1) := by decide +kernel
theorem dX5_runEnd_36 : decode cX5_runEnd 36 = .ok (.ireturn, 1) := by decide +kernel
set_option maxRecDepth 20000 in
theorem ggX5_writeNote_X5_write : GoodIn wsX5_writeNote wsX5_write := goodIn_r _ [7, 8, 9, 74, 75, 76, 77, 78, 79, 80, 81, 82] (by decide +kernel) (by decide +kernel)
set_option maxRecDepth 20000 in
theorem gX5_writeNote_X5_write : GoodIn wsX5_writeNote (wsV RX5 68 RX5 yX5_write wsX5_write) := goodIn_app (goodIn_of _ (by decide +kernel)) ggX5_writeNote_X5_write
set_option maxRecDepth 20000 in
theorem ggX5_writeNote_X5_repeatsNoteBefore : GoodIn wsX5_writeNote wsX5_repeatsNoteBefore := goodIn_r _ [13, 14, 15, 2, 16, 17, 18, 19, 20, 21, 74, 75, 76, 77, 78, 79, 80, 81, 82, 83, 84, 85] (by decide +kernel) (by decide +kernel)
set_option maxRecDepth 20000 in
theorem gX5_writeNote_X5_repeatsNoteBefore : GoodIn wsX5_writeNote (wsV RX5 149 RX5 yX5_repeatsNoteBefore wsX5_repeatsNoteBefore) := goodIn_app (goodIn_of _ (by decide +kernel)) ggX5_writeNote_X5_repeatsNoteBefore
set_option maxRecDepth 20000 in
theorem ggX5_writeNote_X5_writeNoted : GoodIn wsX5_writeNote wsX5_writeNoted := goodIn_r _ [25, 14, 26, 27, 28, 29, 30, 19, 31, 32, 33, 34, 35, 36, 37, 38, 17, 18, 20, 21, 39, 40, 41, 6, 42, 43, 44, 45, 46, 47, 48, 49, 50, 51, 3, 4, 5, 7, 8, 9, 52, 53, 54, 55, 56, 57, 58, 59, 60, 61, 62, 63, 64, 65, 66, 67, 68, 69, 70, 71, 72, 73, 74, 75, 76, 77, 78, 79, 80, 81, 82, 86, 87, 88, 89, 90, 91, 83, 84, 85, 92, 93, 94, 95, 96, 97, 98, 99] (by decide +kernel) (by decide +kernel)
set_option maxRecDepth 20000 in
theorem gX5_writeNote_X5_writeNoted : GoodIn wsX5_writeNote (wsV RX5 153 RX5 yX5_writeNoted wsX5_writeNoted) := goodIn_app (goodIn_of _ (by decide +kernel)) ggX5_writeNote_X5_writeNoted
theorem dX5_writeNote_0 : decode cX5_writeNote 0 = .ok (.iconst 0, 1) := by decide +kernel
theorem dX5_writeNote_1 : decode cX5_writeNote 1 = .ok (.istore_n 2, 1) := by decide +kernel
theorem dX5_writeNote_2 : decode cX5_writeNote 2 = .ok (.iload_n 2, 1) := by decide +kernel
theorem dX5_writeNote_3 : decode cX5_writeNote 3 = .ok (.aload_n 0, 1) := by decide +kernel
theorem dX5_writeNote_4 : decode cX5_writeNote 4 = .ok (.getfield 22, 3) := by decide +kernel
theorem dX5_writeNote_7 : decode cX5_writeNote 7 = .ok (.if_icmp .ge 51, 3) := by decide +kernel
theorem dX5_writeNote_10 : decode cX5_writeNote 10 = .ok (.iload_n 2, 1) := by decide +kernel
theorem dX5_writeNote_11 : decode cX5_writeNote 11 = .ok (.ifCond .le 9, 3) := by decide +kernel
theorem dX5_writeNote_14 : decode cX5_writeNote 14 = .ok (.aload_n 0, 1) := by decide +kernel
theorem dX5_writeNote_15 : decode cX5_writeNote 15 = .ok (.bipush 59, 2) := by decide +kernel
theorem dX5_writeNote_17 : decode cX5_writeNote 17 = .ok (.invokevirtual 68, 3) := by decide +kernel
theorem dX5_writeNote_20 : decode cX5_writeNote 20 = .ok (.iload_n 2, 1) := by decide +kernel
theorem dX5_writeNote_21 : decode cX5_writeNote 21 = .ok (.ifCond .ne 20, 3) := by decide +kernel
theorem dX5_writeNote_24 : decode cX5_writeNote 24 = .ok (.aload_n 0, 1) := by decide +kernel
theorem dX5_writeNote_25 : decode cX5_writeNote 25 = .ok (.iload_n 1, 1) := by decide +kernel
theorem dX5_writeNote_26 : decode cX5_writeNote 26 = .ok (.invokevirtual 149, 3) := by decide +kernel
theorem dX5_writeNote_29 : decode cX5_writeNote 29 = .ok (.ifCond .eq 12, 3) := by decide +kernel
theorem dX5_writeNote_32 : decode cX5_writeNote 32 = .ok (.aload_n 0, 1) := by decide +kernel
theorem dX5_writeNote_33 : decode cX5_writeNote 33 = .ok (.bipush 105, 2) := by decide +kernel
theorem dX5_writeNote_35 : decode cX5_writeNote 35 = .ok (.invokevirtual 68, 3) := by decide +kernel
theorem dX5_writeNote_38 : decode cX5_writeNote 38 = .ok (.goto 14, 3) := by decide +kernel
theorem dX5_writeNote_41 : decode cX5_writeNote 41 = .ok (.aload_n 0, 1) := by decide +kernel
theorem dX5_writeNote_42 : decode cX5_writeNote 42 = .ok (.iload_n 1, 1) := by decide +kernel
theorem dX5_writeNote_43 : decode cX5_writeNote 43 = .ok (.aload_n 0, 1) := by decide +kernel
theorem dX5_writeNote_44 : decode cX5_writeNote 44 = .ok (.getfield 19, 3) := by decide +kernel
theorem dX5_writeNote_47 : decode cX5_writeNote 47 = .ok (.iload_n 2, 1) := by decide +kernel
theorem dX5_writeNote_48 : decode cX5_writeNote 48 = .ok (.iaload, 1) := by decide +kernel
theorem dX5_writeNote_49 : decode cX5_writeNote 49 = .ok (.invokevirtual 153, 3) := by decide +kernel
theorem dX5_writeNote_52 : decode cX5_writeNote 52 = .ok (.iinc 2 1, 3) := by decide +kernel
theorem dX5_writeNote_55 : decode cX5_writeNote 55 = .ok (.goto (-53), 3) := by decide +kernel
theorem dX5_writeNote_58 : decode cX5_writeNote 58 = .ok (.aload_n 0, 1) := by decide +kernel
theorem dX5_writeNote_59 : decode cX5_writeNote 59 = .ok (.bipush 46, 2) := by decide +kernel
theorem dX5_writeNote_61 : decode cX5_writeNote 61 = .ok (.invokevirtual 68, 3) := by decide +kernel
theorem dX5_writeNote_64 : decode cX5_writeNote 64 = .ok (.return_, 1) := by decide +kernel
set_option maxRecDepth 20000 in
theorem ggX5_repeatsNoteBefore_X1_workAt : GoodIn wsX5_repeatsNoteBefore wsX1_workAt := goodIn_r _ [8, 9, 19, 20, 21] (by decide +kernel) (by decide +kernel)
set_option maxRecDepth 20000 in
theorem gX5_repeatsNoteBefore_X1_workAt : GoodIn wsX5_repeatsNoteBefore (wsV RX5 101 RX1 yX1_workAt wsX1_workAt) := goodIn_app (goodIn_of _ (by decide +kernel)) ggX5_repeatsNoteBefore_X1_workAt
theorem dX5_repeatsNoteBefore_0 : decode cX5_repeatsNoteBefore 0 = .ok (.iload_n 1, 1) := by decide +kernel
theorem dX5_repeatsNoteBefore_1 : decode cX5_repeatsNoteBefore 1 = .ok (.ifCond .le 42, 3) := by decide +kernel
theorem dX5_repeatsNoteBefore_4 : decode cX5_repeatsNoteBefore 4 = .ok (.aload_n 0, 1) := by decide +kernel
theorem dX5_repeatsNoteBefore_5 : decode cX5_repeatsNoteBefore 5 = .ok (.getfield 41, 3) := by decide +kernel
theorem dX5_repeatsNoteBefore_8 : decode cX5_repeatsNoteBefore 8 = .ok (.getfield 96, 3) := by decide +kernel
theorem dX5_repeatsNoteBefore_11 : decode cX5_repeatsNoteBefore 11 = .ok (.iload_n 1, 1) := by decide +kernel
theorem dX5_repeatsNoteBefore_12 : decode cX5_repeatsNoteBefore 12 = .ok (.iconst 1, 1) := by decide +kernel
theorem dX5_repeatsNoteBefore_13 : decode cX5_repeatsNoteBefore 13 = .ok (.isub, 1) := by decide +kernel
theorem dX5_repeatsNoteBefore_14 : decode cX5_repeatsNoteBefore 14 = .ok (.iaload, 1) := by decide +kernel
theorem dX5_repeatsNoteBefore_15 : decode cX5_repeatsNoteBefore 15 = .ok (.iconst 1, 1) := by decide +kernel
theorem dX5_repeatsNoteBefore_16 : decode cX5_repeatsNoteBefore 16 = .ok (.if_icmp .ne 27, 3) := by decide +kernel
theorem dX5_repeatsNoteBefore_19 : decode cX5_repeatsNoteBefore 19 = .ok (.aload_n 0, 1) := by decide +kernel
theorem dX5_repeatsNoteBefore_20 : decode cX5_repeatsNoteBefore 20 = .ok (.getfield 41, 3) := by decide +kernel
theorem dX5_repeatsNoteBefore_23 : decode cX5_repeatsNoteBefore 23 = .ok (.iload_n 1, 1) := by decide +kernel
theorem dX5_repeatsNoteBefore_24 : decode cX5_repeatsNoteBefore 24 = .ok (.iconst 1, 1) := by decide +kernel
theorem dX5_repeatsNoteBefore_25 : decode cX5_repeatsNoteBefore 25 = .ok (.isub, 1) := by decide +kernel
theorem dX5_repeatsNoteBefore_26 : decode cX5_repeatsNoteBefore 26 = .ok (.iconst 0, 1) := by decide +kernel
theorem dX5_repeatsNoteBefore_27 : decode cX5_repeatsNoteBefore 27 = .ok (.invokevirtual 101, 3) := by decide +kernel
theorem dX5_repeatsNoteBefore_30 : decode cX5_repeatsNoteBefore 30 = .ok (.aload_n 0, 1) := by decide +kernel
theorem dX5_repeatsNoteBefore_31 : decode cX5_repeatsNoteBefore 31 = .ok (.getfield 19, 3) := by decide +kernel
theorem dX5_repeatsNoteBefore_34 : decode cX5_repeatsNoteBefore 34 = .ok (.iconst 0, 1) := by decide +kernel
theorem dX5_repeatsNoteBefore_35 : decode cX5_repeatsNoteBefore 35 = .ok (.iaload, 1) := by decide +kernel
theorem dX5_repeatsNoteBefore_36 : decode cX5_repeatsNoteBefore 36 = .ok (.if_icmp .ne 7, 3) := by decide +kernel
theorem dX5_repeatsNoteBefore_39 : decode cX5_repeatsNoteBefore 39 = .ok (.iconst 1, 1) := by decide +kernel
theorem dX5_repeatsNoteBefore_40 : decode cX5_repeatsNoteBefore 40 = .ok (.goto 4, 3) := by decide +kernel
theorem dX5_repeatsNoteBefore_43 : decode cX5_repeatsNoteBefore 43 = .ok (.iconst 0, 1) := by decide +kernel
theorem dX5_repeatsNoteBefore_44 : decode cX5_repeatsNoteBefore 44 = .ok (.ireturn, 1) := by decide +kernel
set_option maxRecDepth 20000 in
theorem ggX5_writeNoted_X1_earliestCiting : GoodIn wsX5_writeNoted wsX1_earliestCiting := goodIn_r _ [8, 9, 10, 11, 12, 7, 13, 14, 15, 16, 17, 18, 19, 77, 78, 79] (by decide +kernel) (by decide +kernel)
set_option maxRecDepth 20000 in
theorem gX5_writeNoted_X1_earliestCiting : GoodIn wsX5_writeNoted (wsV RX5 156 RX1 yX1_earliestCiting wsX1_earliestCiting) := goodIn_app (goodIn_of _ (by decide +kernel)) ggX5_writeNoted_X1_earliestCiting
set_option maxRecDepth 20000 in
theorem ggX5_writeNoted_X5_writeNames : GoodIn wsX5_writeNoted wsX5_writeNames := goodIn_r _ [24, 25, 26, 27, 28, 29, 30, 23, 31, 2, 32, 33, 34, 35, 36, 37, 38, 39, 40, 41, 42, 43, 44, 45, 46, 47, 62, 63, 64, 65, 66, 67, 68, 69, 70, 80, 81, 82, 83, 84, 85, 86, 87, 71, 72, 73, 74, 75, 76] (by decide +kernel) (by decide +kernel)
set_option maxRecDepth 20000 in
theorem gX5_writeNoted_X5_writeNames : GoodIn wsX5_writeNoted (wsV RX5 159 RX5 yX5_writeNames wsX5_writeNames) := goodIn_app (goodIn_of _ (by decide +kernel)) ggX5_writeNoted_X5_writeNames
set_option maxRecDepth 20000 in
theorem ggX5_writeNoted_X5_write : GoodIn wsX5_writeNoted wsX5_write := goodIn_r _ [37, 38, 39, 62, 63, 64, 65, 66, 67, 68, 69, 70] (by decide +kernel) (by decide +kernel)
set_option maxRecDepth 20000 in
theorem gX5_writeNoted_X5_write : GoodIn wsX5_writeNoted (wsV RX5 68 RX5 yX5_write wsX5_write) := goodIn_app (goodIn_of _ (by decide +kernel)) ggX5_writeNoted_X5_write
set_option maxRecDepth 20000 in
theorem ggX5_writeNoted_X5_writeDigit : GoodIn wsX5_writeNoted wsX5_writeDigit := goodIn_r _ [51, 34, 35, 36, 23, 37, 38, 39, 62, 63, 64, 65, 66, 67, 68, 69, 70] (by decide +kernel) (by decide +kernel)
set_option maxRecDepth 20000 in
theorem gX5_writeNoted_X5_writeDigit : GoodIn wsX5_writeNoted (wsV RX5 76 RX5 yX5_writeDigit wsX5_writeDigit) := goodIn_app (goodIn_of _ (by decide +kernel)) ggX5_writeNoted_X5_writeDigit
set_option maxRecDepth 20000 in
theorem ggX5_writeNoted_X5_writeAllAuthors : GoodIn wsX5_writeNoted wsX5_writeAllAuthors := goodIn_r _ [55, 2, 56, 28, 29, 30, 23, 31, 32, 33, 34, 35, 36, 37, 38, 39, 62, 63, 64, 65, 66, 67, 68, 69, 70, 71, 72, 73, 74, 75, 76] (by decide +kernel) (by decide +kernel)
set_option maxRecDepth 20000 in
theorem gX5_writeNoted_X5_writeAllAuthors : GoodIn wsX5_writeNoted (wsV RX5 79 RX5 yX5_writeAllAuthors wsX5_writeAllAuthors) := goodIn_app (goodIn_of _ (by decide +kernel)) ggX5_writeNoted_X5_writeAllAuthors
set_option maxRecDepth 20000 in
theorem ggX5_writeNoted_X5_writeYear : GoodIn wsX5_writeNoted wsX5_writeYear := goodIn_r _ [60, 2, 61, 48, 49, 50, 23, 51, 34, 35, 36, 37, 38, 39, 62, 63, 64, 65, 66, 67, 68, 69, 70, 71, 72, 73, 74, 75, 76] (by decide +kernel) (by decide +kernel)
set_option maxRecDepth 20000 in
theorem gX5_writeNoted_X5_writeYear : GoodIn wsX5_writeNoted (wsV RX5 82 RX5 yX5_writeYear wsX5_writeYear) := goodIn_app (goodIn_of _ (by decide +kernel)) ggX5_writeNoted_X5_writeYear
theorem dX5_writeNoted_0 : decode cX5_writeNoted 0 = .ok (.aload_n 0, 1) := by decide +kernel
theorem dX5_writeNoted_1 : decode cX5_writeNoted 1 = .ok (.getfield 41, 3) := by decide +kernel
theorem dX5_writeNoted_4 : decode cX5_writeNoted 4 = .ok (.iload_n 2, 1) := by decide +kernel
theorem dX5_writeNoted_5 : decode cX5_writeNoted 5 = .ok (.invokevirtual 156, 3) := by decide +kernel
theorem dX5_writeNoted_8 : decode cX5_writeNoted 8 = .ok (.istore_n 3, 1) := by decide +kernel
theorem dX5_writeNoted_9 : decode cX5_writeNoted 9 = .ok (.iload_n 3, 1) := by decide +kernel
theorem dX5_writeNoted_10 : decode cX5_writeNoted 10 = .ok (.iload_n 1, 1) := by decide +kernel
theorem dX5_writeNoted_11 : decode cX5_writeNoted 11 = .ok (.if_icmp .ge 22, 3) := by decide +kernel
theorem dX5_writeNoted_14 : decode cX5_writeNoted 14 = .ok (.aload_n 0, 1) := by decide +kernel
theorem dX5_writeNoted_15 : decode cX5_writeNoted 15 = .ok (.iload_n 2, 1) := by decide +kernel
theorem dX5_writeNoted_16 : decode cX5_writeNoted 16 = .ok (.invokevirtual 159, 3) := by decide +kernel
theorem dX5_writeNoted_19 : decode cX5_writeNoted 19 = .ok (.aload_n 0, 1) := by decide +kernel
theorem dX5_writeNoted_20 : decode cX5_writeNoted 20 = .ok (.bipush 110, 2) := by decide +kernel
theorem dX5_writeNoted_22 : decode cX5_writeNoted 22 = .ok (.invokevirtual 68, 3) := by decide +kernel
theorem dX5_writeNoted_25 : decode cX5_writeNoted 25 = .ok (.aload_n 0, 1) := by decide +kernel
theorem dX5_writeNoted_26 : decode cX5_writeNoted 26 = .ok (.iload_n 3, 1) := by decide +kernel
theorem dX5_writeNoted_27 : decode cX5_writeNoted 27 = .ok (.iconst 1, 1) := by decide +kernel
theorem dX5_writeNoted_28 : decode cX5_writeNoted 28 = .ok (.iadd, 1) := by decide +kernel
theorem dX5_writeNoted_29 : decode cX5_writeNoted 29 = .ok (.invokevirtual 76, 3) := by decide +kernel
theorem dX5_writeNoted_32 : decode cX5_writeNoted 32 = .ok (.return_, 1) := by decide +kernel
theorem dX5_writeNoted_33 : decode cX5_writeNoted 33 = .ok (.aload_n 0, 1) := by decide +kernel
theorem dX5_writeNoted_34 : decode cX5_writeNoted 34 = .ok (.iload_n 2, 1) := by decide +kernel
theorem dX5_writeNoted_35 : decode cX5_writeNoted 35 = .ok (.invokevirtual 79, 3) := by decide +kernel
theorem dX5_writeNoted_38 : decode cX5_writeNoted 38 = .ok (.aload_n 0, 1) := by decide +kernel
theorem dX5_writeNoted_39 : decode cX5_writeNoted 39 = .ok (.aload_n 0, 1) := by decide +kernel
theorem dX5_writeNoted_40 : decode cX5_writeNoted 40 = .ok (.getfield 31, 3) := by decide +kernel
theorem dX5_writeNoted_43 : decode cX5_writeNoted 43 = .ok (.getfield 88, 3) := by decide +kernel
theorem dX5_writeNoted_46 : decode cX5_writeNoted 46 = .ok (.iload_n 2, 1) := by decide +kernel
theorem dX5_writeNoted_47 : decode cX5_writeNoted 47 = .ok (.iaload, 1) := by decide +kernel
theorem dX5_writeNoted_48 : decode cX5_writeNoted 48 = .ok (.invokevirtual 68, 3) := by decide +kernel
theorem dX5_writeNoted_51 : decode cX5_writeNoted 51 = .ok (.aload_n 0, 1) := by decide +kernel
theorem dX5_writeNoted_52 : decode cX5_writeNoted 52 = .ok (.iload_n 2, 1) := by decide +kernel
theorem dX5_writeNoted_53 : decode cX5_writeNoted 53 = .ok (.invokevirtual 82, 3) := by decide +kernel
theorem dX5_writeNoted_56 : decode cX5_writeNoted 56 = .ok (.return_, 1) := by decide +kernel
set_option maxRecDepth 20000 in
theorem ggX5_writeLabel_X5_writeNames : GoodIn wsX5_writeLabel wsX5_writeNames := goodIn_r _ [5, 6, 7, 8, 9, 10, 11, 4, 12, 13, 14, 15, 16, 17, 18, 19, 20, 21, 22, 23, 24, 25, 26, 27, 28, 29, 44, 45, 46, 47, 48, 49, 50, 51, 52, 53, 54, 55, 56, 57, 58, 59, 60, 61, 62, 63, 64, 65, 66] (by decide +kernel) (by decide +kernel)
set_option maxRecDepth 20000 in
theorem gX5_writeLabel_X5_writeNames : GoodIn wsX5_writeLabel (wsV RX5 159 RX5 yX5_writeNames wsX5_writeNames) := goodIn_app (goodIn_of _ (by decide +kernel)) ggX5_writeLabel_X5_writeNames
set_option maxRecDepth 20000 in
theorem ggX5_writeLabel_X5_writeYear : GoodIn wsX5_writeLabel wsX5_writeYear := goodIn_r _ [33, 13, 34, 35, 36, 37, 4, 38, 16, 17, 18, 19, 20, 21, 44, 45, 46, 47, 48, 49, 50, 51, 52, 61, 62, 63, 64, 65, 66] (by decide +kernel) (by decide +kernel)
set_option maxRecDepth 20000 in
theorem gX5_writeLabel_X5_writeYear : GoodIn wsX5_writeLabel (wsV RX5 82 RX5 yX5_writeYear wsX5_writeYear) := goodIn_app (goodIn_of _ (by decide +kernel)) ggX5_writeLabel_X5_writeYear
set_option maxRecDepth 20000 in
theorem ggX5_writeLabel_X5_writeSuffix : GoodIn wsX5_writeLabel wsX5_writeSuffix := goodIn_r _ [42, 6, 43, 16, 17, 18, 4, 19, 20, 21, 44, 45, 46, 47, 48, 49, 50, 51, 52, 53, 54, 55, 56, 57, 58, 59, 60] (by decide +kernel) (by decide +kernel)
set_option maxRecDepth 20000 in
theorem gX5_writeLabel_X5_writeSuffix : GoodIn wsX5_writeLabel (wsV RX5 85 RX5 yX5_writeSuffix wsX5_writeSuffix) := goodIn_app (goodIn_of _ (by decide +kernel)) ggX5_writeLabel_X5_writeSuffix
theorem dX5_writeLabel_0 : decode cX5_writeLabel 0 = .ok (.aload_n 0, 1) := by decide +kernel
theorem dX5_writeLabel_1 : decode cX5_writeLabel 1 = .ok (.iload_n 1, 1) := by decide +kernel
theorem dX5_writeLabel_2 : decode cX5_writeLabel 2 = .ok (.invokevirtual 159, 3) := by decide +kernel
theorem dX5_writeLabel_5 : decode cX5_writeLabel 5 = .ok (.aload_n 0, 1) := by decide +kernel
theorem dX5_writeLabel_6 : decode cX5_writeLabel 6 = .ok (.iload_n 1, 1) := by decide +kernel
theorem dX5_writeLabel_7 : decode cX5_writeLabel 7 = .ok (.invokevirtual 82, 3) := by decide +kernel
theorem dX5_writeLabel_10 : decode cX5_writeLabel 10 = .ok (.aload_n 0, 1) := by decide +kernel
theorem dX5_writeLabel_11 : decode cX5_writeLabel 11 = .ok (.iload_n 1, 1) := by decide +kernel
theorem dX5_writeLabel_12 : decode cX5_writeLabel 12 = .ok (.invokevirtual 85, 3) := by decide +kernel
theorem dX5_writeLabel_15 : decode cX5_writeLabel 15 = .ok (.return_, 1) := by decide +kernel
set_option maxRecDepth 20000 in
theorem ggX5_writeNames_X5_writeAuthors : GoodIn wsX5_writeNames wsX5_writeAuthors := goodIn_r _ [8, 9, 10, 11, 12, 13, 14, 7, 15, 16, 17, 26, 27, 28, 29, 30, 31, 32, 33, 34, 43, 44, 45, 46, 47, 48] (by decide +kernel) (by decide +kernel)
set_option maxRecDepth 20000 in
theorem gX5_writeNames_X5_writeAuthors : GoodIn wsX5_writeNames (wsV RX5 169 RX5 yX5_writeAuthors wsX5_writeAuthors) := goodIn_app (goodIn_of _ (by decide +kernel)) ggX5_writeNames_X5_writeAuthors
set_option maxRecDepth 20000 in
theorem ggX5_writeNames_X3_hidesAuthors : GoodIn wsX5_writeNames wsX3_hidesAuthors := goodIn_r _ [22, 23, 24, 25, 35, 36, 37, 38, 39, 40, 41, 42, 43, 44, 45, 46, 47, 48] (by decide +kernel) (by decide +kernel)
set_option maxRecDepth 20000 in
theorem gX5_writeNames_X3_hidesAuthors : GoodIn wsX5_writeNames (wsV RX5 173 RX3 yX3_hidesAuthors wsX3_hidesAuthors) := goodIn_app (goodIn_of _ (by decide +kernel)) ggX5_writeNames_X3_hidesAuthors
set_option maxRecDepth 20000 in
theorem ggX5_writeNames_X5_write : GoodIn wsX5_writeNames wsX5_write := goodIn_r _ [15, 16, 17, 26, 27, 28, 29, 30, 31, 32, 33, 34] (by decide +kernel) (by decide +kernel)
set_option maxRecDepth 20000 in
theorem gX5_writeNames_X5_write : GoodIn wsX5_writeNames (wsV RX5 68 RX5 yX5_write wsX5_write) := goodIn_app (goodIn_of _ (by decide +kernel)) ggX5_writeNames_X5_write
theorem dX5_writeNames_0 : decode cX5_writeNames 0 = .ok (.aload_n 0, 1) := by decide +kernel
theorem dX5_writeNames_1 : decode cX5_writeNames 1 = .ok (.iload_n 1, 1) := by decide +kernel
theorem dX5_writeNames_2 : decode cX5_writeNames 2 = .ok (.aload_n 0, 1) := by decide +kernel
theorem dX5_writeNames_3 : decode cX5_writeNames 3 = .ok (.getfield 46, 3) := by decide +kernel
theorem dX5_writeNames_6 : decode cX5_writeNames 6 = .ok (.getfield 162, 3) := by decide +kernel
theorem dX5_writeNames_9 : decode cX5_writeNames 9 = .ok (.iload_n 1, 1) := by decide +kernel
theorem dX5_writeNames_10 : decode cX5_writeNames 10 = .ok (.iaload, 1) := by decide +kernel
theorem dX5_writeNames_11 : decode cX5_writeNames 11 = .ok (.aload_n 0, 1) := by decide +kernel
theorem dX5_writeNames_12 : decode cX5_writeNames 12 = .ok (.getfield 46, 3) := by decide +kernel
theorem dX5_writeNames_15 : decode cX5_writeNames 15 = .ok (.getfield 165, 3) := by decide +kernel
theorem dX5_writeNames_18 : decode cX5_writeNames 18 = .ok (.iload_n 1, 1) := by decide +kernel
theorem dX5_writeNames_19 : decode cX5_writeNames 19 = .ok (.baload, 1) := by decide +kernel
theorem dX5_writeNames_20 : decode cX5_writeNames 20 = .ok (.invokevirtual 169, 3) := by decide +kernel
theorem dX5_writeNames_23 : decode cX5_writeNames 23 = .ok (.aload_n 0, 1) := by decide +kernel
theorem dX5_writeNames_24 : decode cX5_writeNames 24 = .ok (.getfield 46, 3) := by decide +kernel
theorem dX5_writeNames_27 : decode cX5_writeNames 27 = .ok (.iload_n 1, 1) := by decide +kernel
theorem dX5_writeNames_28 : decode cX5_writeNames 28 = .ok (.invokevirtual 173, 3) := by decide +kernel
theorem dX5_writeNames_31 : decode cX5_writeNames 31 = .ok (.ifCond .eq 9, 3) := by decide +kernel
theorem dX5_writeNames_34 : decode cX5_writeNames 34 = .ok (.aload_n 0, 1) := by decide +kernel
theorem dX5_writeNames_35 : decode cX5_writeNames 35 = .ok (.bipush 43, 2) := by decide +kernel
theorem dX5_writeNames_37 : decode cX5_writeNames 37 = .ok (.invokevirtual 68, 3) := by decide +kernel
theorem dX5_writeNames_40 : decode cX5_writeNames 40 = .ok (.return_, 1) := by decide +kernel
set_option maxRecDepth 20000 in
theorem ggX5_writeAllAuthors_X5_writeAuthors : GoodIn wsX5_writeAllAuthors wsX5_writeAuthors := goodIn_r _ [7, 1, 8, 9, 10, 11, 12, 6, 13, 14, 15, 16, 17, 18, 19, 20, 21, 22, 23, 24, 25, 26, 27, 28, 29, 30] (by decide +kernel) (by decide +kernel)
set_option maxRecDepth 20000 in
theorem gX5_writeAllAuthors_X5_writeAuthors : GoodIn wsX5_writeAllAuthors (wsV RX5 169 RX5 yX5_writeAuthors wsX5_writeAuthors) := goodIn_app (goodIn_of _ (by decide +kernel)) ggX5_writeAllAuthors_X5_writeAuthors
theorem dX5_writeAllAuthors_0 : decode cX5_writeAllAuthors 0 = .ok (.aload_n 0, 1) := by decide +kernel
theorem dX5_writeAllAuthors_1 : decode cX5_writeAllAuthors 1 = .ok (.iload_n 1, 1) := by decide +kernel
theorem dX5_writeAllAuthors_2 : decode cX5_writeAllAuthors 2 = .ok (.aload_n 0, 1) := by decide +kernel
theorem dX5_writeAllAuthors_3 : decode cX5_writeAllAuthors 3 = .ok (.getfield 31, 3) := by decide +kernel
theorem dX5_writeAllAuthors_6 : decode cX5_writeAllAuthors 6 = .ok (.getfield 176, 3) := by decide +kernel
theorem dX5_writeAllAuthors_9 : decode cX5_writeAllAuthors 9 = .ok (.iload_n 1, 1) := by decide +kernel
theorem dX5_writeAllAuthors_10 : decode cX5_writeAllAuthors 10 = .ok (.iaload, 1) := by decide +kernel
theorem dX5_writeAllAuthors_11 : decode cX5_writeAllAuthors 11 = .ok (.iconst 1, 1) := by decide +kernel
theorem dX5_writeAllAuthors_12 : decode cX5_writeAllAuthors 12 = .ok (.invokevirtual 169, 3) := by decide +kernel
theorem dX5_writeAllAuthors_15 : decode cX5_writeAllAuthors 15 = .ok (.return_, 1) := by decide +kernel
set_option maxRecDepth 20000 in
theorem ggX5_writeAuthors_X5_write : GoodIn wsX5_writeAuthors wsX5_write := goodIn_r _ [8, 9, 10, 11, 12, 13, 14, 15, 16, 17, 18, 19] (by decide +kernel) (by decide +kernel)
set_option maxRecDepth 20000 in
theorem gX5_writeAuthors_X5_write : GoodIn wsX5_writeAuthors (wsV RX5 68 RX5 yX5_write wsX5_write) := goodIn_app (goodIn_of _ (by decide +kernel)) ggX5_writeAuthors_X5_write
theorem dX5_writeAuthors_0 : decode cX5_writeAuthors 0 = .ok (.iconst 0, 1) := by decide +kernel
theorem dX5_writeAuthors_1 : decode cX5_writeAuthors 1 = .ok (.istore 4, 2) := by decide +kernel
theorem dX5_writeAuthors_3 : decode cX5_writeAuthors 3 = .ok (.iload 4, 2) := by decide +kernel
theorem dX5_writeAuthors_5 : decode cX5_writeAuthors 5 = .ok (.iload_n 2, 1) := by decide +kernel
theorem dX5_writeAuthors_6 : decode cX5_writeAuthors 6 = .ok (.if_icmp .ge 60, 3) := by decide +kernel
theorem dX5_writeAuthors_9 : decode cX5_writeAuthors 9 = .ok (.iload 4, 2) := by decide +kernel
theorem dX5_writeAuthors_11 : decode cX5_writeAuthors 11 = .ok (.ifCond .le 9, 3) := by decide +kernel
theorem dX5_writeAuthors_14 : decode cX5_writeAuthors 14 = .ok (.aload_n 0, 1) := by decide +kernel
theorem dX5_writeAuthors_15 : decode cX5_writeAuthors 15 = .ok (.bipush 38, 2) := by decide +kernel
theorem dX5_writeAuthors_17 : decode cX5_writeAuthors 17 = .ok (.invokevirtual 68, 3) := by decide +kernel
theorem dX5_writeAuthors_20 : decode cX5_writeAuthors 20 = .ok (.aload_n 0, 1) := by decide +kernel
theorem dX5_writeAuthors_21 : decode cX5_writeAuthors 21 = .ok (.aload_n 0, 1) := by decide +kernel
theorem dX5_writeAuthors_22 : decode cX5_writeAuthors 22 = .ok (.getfield 31, 3) := by decide +kernel
theorem dX5_writeAuthors_25 : decode cX5_writeAuthors 25 = .ok (.getfield 179, 3) := by decide +kernel
theorem dX5_writeAuthors_28 : decode cX5_writeAuthors 28 = .ok (.iload_n 1, 1) := by decide +kernel
theorem dX5_writeAuthors_29 : decode cX5_writeAuthors 29 = .ok (.iconst 4, 1) := by decide +kernel
theorem dX5_writeAuthors_30 : decode cX5_writeAuthors 30 = .ok (.imul, 1) := by decide +kernel
theorem dX5_writeAuthors_31 : decode cX5_writeAuthors 31 = .ok (.iload 4, 2) := by decide +kernel
theorem dX5_writeAuthors_33 : decode cX5_writeAuthors 33 = .ok (.iadd, 1) := by decide +kernel
theorem dX5_writeAuthors_34 : decode cX5_writeAuthors 34 = .ok (.iaload, 1) := by decide +kernel
theorem dX5_writeAuthors_35 : decode cX5_writeAuthors 35 = .ok (.invokevirtual 68, 3) := by decide +kernel
theorem dX5_writeAuthors_38 : decode cX5_writeAuthors 38 = .ok (.iload_n 3, 1) := by decide +kernel
theorem dX5_writeAuthors_39 : decode cX5_writeAuthors 39 = .ok (.ifCond .eq 21, 3) := by decide +kernel
theorem dX5_writeAuthors_42 : decode cX5_writeAuthors 42 = .ok (.aload_n 0, 1) := by decide +kernel
theorem dX5_writeAuthors_43 : decode cX5_writeAuthors 43 = .ok (.aload_n 0, 1) := by decide +kernel
theorem dX5_writeAuthors_44 : decode cX5_writeAuthors 44 = .ok (.getfield 31, 3) := by decide +kernel
theorem dX5_writeAuthors_47 : decode cX5_writeAuthors 47 = .ok (.getfield 182, 3) := by decide +kernel
theorem dX5_writeAuthors_50 : decode cX5_writeAuthors 50 = .ok (.iload_n 1, 1) := by decide +kernel
theorem dX5_writeAuthors_51 : decode cX5_writeAuthors 51 = .ok (.iconst 4, 1) := by decide +kernel
theorem dX5_writeAuthors_52 : decode cX5_writeAuthors 52 = .ok (.imul, 1) := by decide +kernel
theorem dX5_writeAuthors_53 : decode cX5_writeAuthors 53 = .ok (.iload 4, 2) := by decide +kernel
theorem dX5_writeAuthors_55 : decode cX5_writeAuthors 55 = .ok (.iadd, 1) := by decide +kernel
theorem dX5_writeAuthors_56 : decode cX5_writeAuthors 56 = .ok (.iaload, 1) := by decide +kernel
theorem dX5_writeAuthors_57 : decode cX5_writeAuthors 57 = .ok (.invokevirtual 68, 3) := by decide +kernel
theorem dX5_writeAuthors_60 : decode cX5_writeAuthors 60 = .ok (.iinc 4 1, 3) := by decide +kernel
theorem dX5_writeAuthors_63 : decode cX5_writeAuthors 63 = .ok (.goto (-60), 3) := by decide +kernel
theorem dX5_writeAuthors_66 : decode cX5_writeAuthors 66 = .ok (.return_, 1) := by decide +kernel
set_option maxRecDepth 20000 in
theorem ggX5_writeYear_X5_writeDigit : GoodIn wsX5_writeYear wsX5_writeDigit := goodIn_r _ [7, 8, 9, 10, 6, 11, 12, 13, 14, 15, 16, 17, 18, 19, 20, 21, 22] (by decide +kernel) (by decide +kernel)
set_option maxRecDepth 20000 in
theorem gX5_writeYear_X5_writeDigit : GoodIn wsX5_writeYear (wsV RX5 76 RX5 yX5_writeDigit wsX5_writeDigit) := goodIn_app (goodIn_of _ (by decide +kernel)) ggX5_writeYear_X5_writeDigit
theorem dX5_writeYear_0 : decode cX5_writeYear 0 = .ok (.aload_n 0, 1) := by decide +kernel
theorem dX5_writeYear_1 : decode cX5_writeYear 1 = .ok (.aload_n 0, 1) := by decide +kernel
theorem dX5_writeYear_2 : decode cX5_writeYear 2 = .ok (.getfield 31, 3) := by decide +kernel
theorem dX5_writeYear_5 : decode cX5_writeYear 5 = .ok (.getfield 139, 3) := by decide +kernel
theorem dX5_writeYear_8 : decode cX5_writeYear 8 = .ok (.iload_n 1, 1) := by decide +kernel
theorem dX5_writeYear_9 : decode cX5_writeYear 9 = .ok (.iaload, 1) := by decide +kernel
theorem dX5_writeYear_10 : decode cX5_writeYear 10 = .ok (.bipush 10, 2) := by decide +kernel
theorem dX5_writeYear_12 : decode cX5_writeYear 12 = .ok (.idiv, 1) := by decide +kernel
theorem dX5_writeYear_13 : decode cX5_writeYear 13 = .ok (.invokevirtual 76, 3) := by decide +kernel
theorem dX5_writeYear_16 : decode cX5_writeYear 16 = .ok (.aload_n 0, 1) := by decide +kernel
theorem dX5_writeYear_17 : decode cX5_writeYear 17 = .ok (.aload_n 0, 1) := by decide +kernel
theorem dX5_writeYear_18 : decode cX5_writeYear 18 = .ok (.getfield 31, 3) := by decide +kernel
theorem dX5_writeYear_21 : decode cX5_writeYear 21 = .ok (.getfield 139, 3) := by decide +kernel
theorem dX5_writeYear_24 : decode cX5_writeYear 24 = .ok (.iload_n 1, 1) := by decide +kernel
theorem dX5_writeYear_25 : decode cX5_writeYear 25 = .ok (.iaload, 1) := by decide +kernel
theorem dX5_writeYear_26 : decode cX5_writeYear 26 = .ok (.bipush 10, 2) := by decide +kernel
theorem dX5_writeYear_28 : decode cX5_writeYear 28 = .ok (.irem, 1) := by decide +kernel
theorem dX5_writeYear_29 : decode cX5_writeYear 29 = .ok (.invokevirtual 76, 3) := by decide +kernel
theorem dX5_writeYear_32 : decode cX5_writeYear 32 = .ok (.return_, 1) := by decide +kernel
set_option maxRecDepth 20000 in
theorem ggX5_writeSuffix_X5_write : GoodIn wsX5_writeSuffix wsX5_write := goodIn_r _ [7, 8, 9, 10, 11, 12, 13, 14, 15, 16, 17, 18] (by decide +kernel) (by decide +kernel)
set_option maxRecDepth 20000 in
theorem gX5_writeSuffix_X5_write : GoodIn wsX5_writeSuffix (wsV RX5 68 RX5 yX5_write wsX5_write) := goodIn_app (goodIn_of _ (by decide +kernel)) ggX5_writeSuffix_X5_write
theorem dX5_writeSuffix_0 : decode cX5_writeSuffix 0 = .ok (.aload_n 0, 1) := by decide +kernel
theorem dX5_writeSuffix_1 : decode cX5_writeSuffix 1 = .ok (.getfield 46, 3) := by decide +kernel
theorem dX5_writeSuffix_4 : decode cX5_writeSuffix 4 = .ok (.getfield 136, 3) := by decide +kernel
theorem dX5_writeSuffix_7 : decode cX5_writeSuffix 7 = .ok (.iload_n 1, 1) := by decide +kernel
theorem dX5_writeSuffix_8 : decode cX5_writeSuffix 8 = .ok (.iaload, 1) := by decide +kernel
theorem dX5_writeSuffix_9 : decode cX5_writeSuffix 9 = .ok (.ifCond .eq 16, 3) := by decide +kernel
theorem dX5_writeSuffix_12 : decode cX5_writeSuffix 12 = .ok (.aload_n 0, 1) := by decide +kernel
theorem dX5_writeSuffix_13 : decode cX5_writeSuffix 13 = .ok (.aload_n 0, 1) := by decide +kernel
theorem dX5_writeSuffix_14 : decode cX5_writeSuffix 14 = .ok (.getfield 46, 3) := by decide +kernel
theorem dX5_writeSuffix_17 : decode cX5_writeSuffix 17 = .ok (.getfield 136, 3) := by decide +kernel
theorem dX5_writeSuffix_20 : decode cX5_writeSuffix 20 = .ok (.iload_n 1, 1) := by decide +kernel
theorem dX5_writeSuffix_21 : decode cX5_writeSuffix 21 = .ok (.iaload, 1) := by decide +kernel
theorem dX5_writeSuffix_22 : decode cX5_writeSuffix 22 = .ok (.invokevirtual 68, 3) := by decide +kernel
theorem dX5_writeSuffix_25 : decode cX5_writeSuffix 25 = .ok (.return_, 1) := by decide +kernel
set_option maxRecDepth 20000 in
theorem ggX5_writeDigit_X5_write : GoodIn wsX5_writeDigit wsX5_write := goodIn_r _ [5, 6, 7, 8, 9, 10, 11, 12, 13, 14, 15, 16] (by decide +kernel) (by decide +kernel)
set_option maxRecDepth 20000 in
theorem gX5_writeDigit_X5_write : GoodIn wsX5_writeDigit (wsV RX5 68 RX5 yX5_write wsX5_write) := goodIn_app (goodIn_of _ (by decide +kernel)) ggX5_writeDigit_X5_write
theorem dX5_writeDigit_0 : decode cX5_writeDigit 0 = .ok (.aload_n 0, 1) := by decide +kernel
theorem dX5_writeDigit_1 : decode cX5_writeDigit 1 = .ok (.bipush 48, 2) := by decide +kernel
theorem dX5_writeDigit_3 : decode cX5_writeDigit 3 = .ok (.iload_n 1, 1) := by decide +kernel
theorem dX5_writeDigit_4 : decode cX5_writeDigit 4 = .ok (.iadd, 1) := by decide +kernel
theorem dX5_writeDigit_5 : decode cX5_writeDigit 5 = .ok (.invokevirtual 68, 3) := by decide +kernel
theorem dX5_writeDigit_8 : decode cX5_writeDigit 8 = .ok (.return_, 1) := by decide +kernel
theorem dX5_write_0 : decode cX5_write 0 = .ok (.aload_n 0, 1) := by decide +kernel
theorem dX5_write_1 : decode cX5_write 1 = .ok (.getfield 9, 3) := by decide +kernel
theorem dX5_write_4 : decode cX5_write 4 = .ok (.bipush 100, 2) := by decide +kernel
theorem dX5_write_6 : decode cX5_write 6 = .ok (.if_icmp .ge 23, 3) := by decide +kernel
theorem dX5_write_9 : decode cX5_write 9 = .ok (.aload_n 0, 1) := by decide +kernel
theorem dX5_write_10 : decode cX5_write 10 = .ok (.getfield 15, 3) := by decide +kernel
theorem dX5_write_13 : decode cX5_write 13 = .ok (.aload_n 0, 1) := by decide +kernel
theorem dX5_write_14 : decode cX5_write 14 = .ok (.getfield 9, 3) := by decide +kernel
theorem dX5_write_17 : decode cX5_write 17 = .ok (.iload_n 1, 1) := by decide +kernel
theorem dX5_write_18 : decode cX5_write 18 = .ok (.iastore, 1) := by decide +kernel
theorem dX5_write_19 : decode cX5_write 19 = .ok (.aload_n 0, 1) := by decide +kernel
theorem dX5_write_20 : decode cX5_write 20 = .ok (.dup, 1) := by decide +kernel
theorem dX5_write_21 : decode cX5_write 21 = .ok (.getfield 9, 3) := by decide +kernel
theorem dX5_write_24 : decode cX5_write 24 = .ok (.iconst 1, 1) := by decide +kernel
theorem dX5_write_25 : decode cX5_write 25 = .ok (.iadd, 1) := by decide +kernel
theorem dX5_write_26 : decode cX5_write 26 = .ok (.putfield 9, 3) := by decide +kernel
theorem dX5_write_29 : decode cX5_write 29 = .ok (.return_, 1) := by decide +kernel
theorem dX6_init_0 : decode cX6_init 0 = .ok (.aload_n 0, 1) := by decide +kernel
theorem dX6_init_1 : decode cX6_init 1 = .ok (.invokespecial 3, 3) := by decide +kernel
theorem dX6_init_4 : decode cX6_init 4 = .ok (.aload_n 0, 1) := by decide +kernel
theorem dX6_init_5 : decode cX6_init 5 = .ok (.iconst 0, 1) := by decide +kernel
theorem dX6_init_6 : decode cX6_init 6 = .ok (.putfield 9, 3) := by decide +kernel
theorem dX6_init_9 : decode cX6_init 9 = .ok (.aload_n 0, 1) := by decide +kernel
theorem dX6_init_10 : decode cX6_init 10 = .ok (.iconst 3, 1) := by decide +kernel
theorem dX6_init_11 : decode cX6_init 11 = .ok (.putfield 15, 3) := by decide +kernel
theorem dX6_init_14 : decode cX6_init 14 = .ok (.aload_n 0, 1) := by decide +kernel
theorem dX6_init_15 : decode cX6_init 15 = .ok (.iconst 1, 1) := by decide +kernel
theorem dX6_init_16 : decode cX6_init 16 = .ok (.putfield 18, 3) := by decide +kernel
theorem dX6_init_19 : decode cX6_init 19 = .ok (.aload_n 0, 1) := by decide +kernel
theorem dX6_init_20 : decode cX6_init 20 = .ok (.bipush 7, 2) := by decide +kernel
theorem dX6_init_22 : decode cX6_init 22 = .ok (.putfield 21, 3) := by decide +kernel
theorem dX6_init_25 : decode cX6_init 25 = .ok (.aload_n 0, 1) := by decide +kernel
theorem dX6_init_26 : decode cX6_init 26 = .ok (.iconst 0, 1) := by decide +kernel
theorem dX6_init_27 : decode cX6_init 27 = .ok (.putfield 24, 3) := by decide +kernel
theorem dX6_init_30 : decode cX6_init 30 = .ok (.aload_n 0, 1) := by decide +kernel
theorem dX6_init_31 : decode cX6_init 31 = .ok (.iconst 0, 1) := by decide +kernel
theorem dX6_init_32 : decode cX6_init 32 = .ok (.putfield 27, 3) := by decide +kernel
theorem dX6_init_35 : decode cX6_init 35 = .ok (.aload_n 0, 1) := by decide +kernel
theorem dX6_init_36 : decode cX6_init 36 = .ok (.iconst 0, 1) := by decide +kernel
theorem dX6_init_37 : decode cX6_init 37 = .ok (.putfield 30, 3) := by decide +kernel
theorem dX6_init_40 : decode cX6_init 40 = .ok (.aload_n 0, 1) := by decide +kernel
theorem dX6_init_41 : decode cX6_init 41 = .ok (.iconst 3, 1) := by decide +kernel
theorem dX6_init_42 : decode cX6_init 42 = .ok (.newarray .int, 2) := by decide +kernel
theorem dX6_init_44 : decode cX6_init 44 = .ok (.dup, 1) := by decide +kernel
theorem dX6_init_45 : decode cX6_init 45 = .ok (.iconst 0, 1) := by decide +kernel
theorem dX6_init_46 : decode cX6_init 46 = .ok (.iconst 1, 1) := by decide +kernel
theorem dX6_init_47 : decode cX6_init 47 = .ok (.iastore, 1) := by decide +kernel
theorem dX6_init_48 : decode cX6_init 48 = .ok (.dup, 1) := by decide +kernel
theorem dX6_init_49 : decode cX6_init 49 = .ok (.iconst 1, 1) := by decide +kernel
theorem dX6_init_50 : decode cX6_init 50 = .ok (.iconst 2, 1) := by decide +kernel
theorem dX6_init_51 : decode cX6_init 51 = .ok (.iastore, 1) := by decide +kernel
theorem dX6_init_52 : decode cX6_init 52 = .ok (.dup, 1) := by decide +kernel
theorem dX6_init_53 : decode cX6_init 53 = .ok (.iconst 2, 1) := by decide +kernel
theorem dX6_init_54 : decode cX6_init 54 = .ok (.iconst 0, 1) := by decide +kernel
theorem dX6_init_55 : decode cX6_init 55 = .ok (.iastore, 1) := by decide +kernel
theorem dX6_init_56 : decode cX6_init 56 = .ok (.putfield 33, 3) := by decide +kernel
theorem dX6_init_59 : decode cX6_init 59 = .ok (.aload_n 0, 1) := by decide +kernel
theorem dX6_init_60 : decode cX6_init 60 = .ok (.iconst 3, 1) := by decide +kernel
theorem dX6_init_61 : decode cX6_init 61 = .ok (.newarray .int, 2) := by decide +kernel
theorem dX6_init_63 : decode cX6_init 63 = .ok (.putfield 37, 3) := by decide +kernel
theorem dX6_init_66 : decode cX6_init 66 = .ok (.return_, 1) := by decide +kernel
theorem dX6_copyFrom_0 : decode cX6_copyFrom 0 = .ok (.aload_n 0, 1) := by decide +kernel
theorem dX6_copyFrom_1 : decode cX6_copyFrom 1 = .ok (.aload_n 1, 1) := by decide +kernel
theorem dX6_copyFrom_2 : decode cX6_copyFrom 2 = .ok (.getfield 9, 3) := by decide +kernel
theorem dX6_copyFrom_5 : decode cX6_copyFrom 5 = .ok (.putfield 9, 3) := by decide +kernel
theorem dX6_copyFrom_8 : decode cX6_copyFrom 8 = .ok (.aload_n 0, 1) := by decide +kernel
theorem dX6_copyFrom_9 : decode cX6_copyFrom 9 = .ok (.aload_n 1, 1) := by decide +kernel
theorem dX6_copyFrom_10 : decode cX6_copyFrom 10 = .ok (.getfield 15, 3) := by decide +kernel
theorem dX6_copyFrom_13 : decode cX6_copyFrom 13 = .ok (.putfield 15, 3) := by decide +kernel
theorem dX6_copyFrom_16 : decode cX6_copyFrom 16 = .ok (.aload_n 0, 1) := by decide +kernel
theorem dX6_copyFrom_17 : decode cX6_copyFrom 17 = .ok (.aload_n 1, 1) := by decide +kernel
theorem dX6_copyFrom_18 : decode cX6_copyFrom 18 = .ok (.getfield 18, 3) := by decide +kernel
theorem dX6_copyFrom_21 : decode cX6_copyFrom 21 = .ok (.putfield 18, 3) := by decide +kernel
theorem dX6_copyFrom_24 : decode cX6_copyFrom 24 = .ok (.aload_n 0, 1) := by decide +kernel
theorem dX6_copyFrom_25 : decode cX6_copyFrom 25 = .ok (.aload_n 1, 1) := by decide +kernel
theorem dX6_copyFrom_26 : decode cX6_copyFrom 26 = .ok (.getfield 21, 3) := by decide +kernel
theorem dX6_copyFrom_29 : decode cX6_copyFrom 29 = .ok (.putfield 21, 3) := by decide +kernel
theorem dX6_copyFrom_32 : decode cX6_copyFrom 32 = .ok (.aload_n 0, 1) := by decide +kernel
theorem dX6_copyFrom_33 : decode cX6_copyFrom 33 = .ok (.aload_n 1, 1) := by decide +kernel
theorem dX6_copyFrom_34 : decode cX6_copyFrom 34 = .ok (.getfield 24, 3) := by decide +kernel
theorem dX6_copyFrom_37 : decode cX6_copyFrom 37 = .ok (.putfield 24, 3) := by decide +kernel
theorem dX6_copyFrom_40 : decode cX6_copyFrom 40 = .ok (.aload_n 0, 1) := by decide +kernel
theorem dX6_copyFrom_41 : decode cX6_copyFrom 41 = .ok (.aload_n 1, 1) := by decide +kernel
theorem dX6_copyFrom_42 : decode cX6_copyFrom 42 = .ok (.getfield 27, 3) := by decide +kernel
theorem dX6_copyFrom_45 : decode cX6_copyFrom 45 = .ok (.putfield 27, 3) := by decide +kernel
theorem dX6_copyFrom_48 : decode cX6_copyFrom 48 = .ok (.aload_n 0, 1) := by decide +kernel
theorem dX6_copyFrom_49 : decode cX6_copyFrom 49 = .ok (.aload_n 1, 1) := by decide +kernel
theorem dX6_copyFrom_50 : decode cX6_copyFrom 50 = .ok (.getfield 30, 3) := by decide +kernel
theorem dX6_copyFrom_53 : decode cX6_copyFrom 53 = .ok (.putfield 30, 3) := by decide +kernel
theorem dX6_copyFrom_56 : decode cX6_copyFrom 56 = .ok (.iconst 0, 1) := by decide +kernel
theorem dX6_copyFrom_57 : decode cX6_copyFrom 57 = .ok (.istore_n 2, 1) := by decide +kernel
theorem dX6_copyFrom_58 : decode cX6_copyFrom 58 = .ok (.iload_n 2, 1) := by decide +kernel
theorem dX6_copyFrom_59 : decode cX6_copyFrom 59 = .ok (.iconst 3, 1) := by decide +kernel
theorem dX6_copyFrom_60 : decode cX6_copyFrom 60 = .ok (.if_icmp .ge 33, 3) := by decide +kernel
theorem dX6_copyFrom_63 : decode cX6_copyFrom 63 = .ok (.aload_n 0, 1) := by decide +kernel
theorem dX6_copyFrom_64 : decode cX6_copyFrom 64 = .ok (.getfield 33, 3) := by decide +kernel
theorem dX6_copyFrom_67 : decode cX6_copyFrom 67 = .ok (.iload_n 2, 1) := by decide +kernel
theorem dX6_copyFrom_68 : decode cX6_copyFrom 68 = .ok (.aload_n 1, 1) := by decide +kernel
theorem dX6_copyFrom_69 : decode cX6_copyFrom 69 = .ok (.getfield 33, 3) := by decide +kernel
theorem dX6_copyFrom_72 : decode cX6_copyFrom 72 = .ok (.iload_n 2, 1) := by decide +kernel
theorem dX6_copyFrom_73 : decode cX6_copyFrom 73 = .ok (.iaload, 1) := by decide +kernel
theorem dX6_copyFrom_74 : decode cX6_copyFrom 74 = .ok (.iastore, 1) := by decide +kernel
theorem dX6_copyFrom_75 : decode cX6_copyFrom 75 = .ok (.aload_n 0, 1) := by decide +kernel
theorem dX6_copyFrom_76 : decode cX6_copyFrom 76 = .ok (.getfield 37, 3) := by decide +kernel
theorem dX6_copyFrom_79 : decode cX6_copyFrom 79 = .ok (.iload_n 2, 1) := by decide +kernel
theorem dX6_copyFrom_80 : decode cX6_copyFrom 80 = .ok (.aload_n 1, 1) := by decide +kernel
theorem dX6_copyFrom_81 : decode cX6_copyFrom 81 = .ok (.getfield 37, 3) := by decide +kernel
theorem dX6_copyFrom_84 : decode cX6_copyFrom 84 = .ok (.iload_n 2, 1) := by decide +kernel
theorem dX6_copyFrom_85 : decode cX6_copyFrom 85 = .ok (.iaload, 1) := by decide +kernel
theorem dX6_copyFrom_86 : decode cX6_copyFrom 86 = .ok (.iastore, 1) := by decide +kernel
theorem dX6_copyFrom_87 : decode cX6_copyFrom 87 = .ok (.iinc 2 1, 3) := by decide +kernel
theorem dX6_copyFrom_90 : decode cX6_copyFrom 90 = .ok (.goto (-32), 3) := by decide +kernel
theorem dX6_copyFrom_93 : decode cX6_copyFrom 93 = .ok (.return_, 1) := by decide +kernel
set_option maxRecDepth 20000 in
theorem ggX7_init_X9_init : GoodIn wsX7_init wsX9_init := goodIn_r _ [17, 18, 2, 3, 19, 20, 21, 22, 23, 24, 25, 44, 45, 46, 47, 48, 49] (by decide +kernel) (by decide +kernel)
set_option maxRecDepth 20000 in
theorem gX7_init_X9_init_n9 : GoodIn wsX7_init (wsX9_init) := ggX7_init_X9_init
set_option maxRecDepth 20000 in
theorem ggX7_init_X6_init : GoodIn wsX7_init wsX6_init := goodIn_r _ [27, 28, 2, 3, 29, 30, 31, 32, 33, 34, 35, 20, 36, 37, 53, 54, 55, 56, 57, 58, 59, 60, 61] (by decide +kernel) (by decide +kernel)
set_option maxRecDepth 20000 in
theorem gX7_init_X6_init_n18 : GoodIn wsX7_init (wsX6_init) := ggX7_init_X6_init
set_option maxRecDepth 20000 in
theorem ggX7_init_X1_init : GoodIn wsX7_init wsX1_init := goodIn_r _ [39, 40, 2, 3, 41, 20, 42, 43, 62, 63, 64] (by decide +kernel) (by decide +kernel)
set_option maxRecDepth 20000 in
theorem gX7_init_X1_init_n25 : GoodIn wsX7_init (wsX1_init) := ggX7_init_X1_init
theorem dX7_init_0 : decode cX7_init 0 = .ok (.aload_n 0, 1) := by decide +kernel
theorem dX7_init_1 : decode cX7_init 1 = .ok (.invokespecial 1, 3) := by decide +kernel
theorem dX7_init_4 : decode cX7_init 4 = .ok (.aload_n 0, 1) := by decide +kernel
theorem dX7_init_5 : decode cX7_init 5 = .ok (.new 7, 3) := by decide +kernel
theorem dX7_init_8 : decode cX7_init 8 = .ok (.dup, 1) := by decide +kernel
theorem dX7_init_9 : decode cX7_init 9 = .ok (.invokespecial 9, 3) := by decide +kernel
theorem dX7_init_12 : decode cX7_init 12 = .ok (.putfield 10, 3) := by decide +kernel
theorem dX7_init_15 : decode cX7_init 15 = .ok (.aload_n 0, 1) := by decide +kernel
theorem dX7_init_16 : decode cX7_init 16 = .ok (.new 16, 3) := by decide +kernel
theorem dX7_init_19 : decode cX7_init 19 = .ok (.dup, 1) := by decide +kernel
theorem dX7_init_20 : decode cX7_init 20 = .ok (.invokespecial 18, 3) := by decide +kernel
theorem dX7_init_23 : decode cX7_init 23 = .ok (.putfield 19, 3) := by decide +kernel
theorem dX7_init_26 : decode cX7_init 26 = .ok (.aload_n 0, 1) := by decide +kernel
theorem dX7_init_27 : decode cX7_init 27 = .ok (.new 23, 3) := by decide +kernel
theorem dX7_init_30 : decode cX7_init 30 = .ok (.dup, 1) := by decide +kernel
theorem dX7_init_31 : decode cX7_init 31 = .ok (.invokespecial 25, 3) := by decide +kernel
theorem dX7_init_34 : decode cX7_init 34 = .ok (.putfield 26, 3) := by decide +kernel
theorem dX7_init_37 : decode cX7_init 37 = .ok (.return_, 1) := by decide +kernel
set_option maxRecDepth 20000 in
theorem ggX7_copyFrom_X9_copyFrom : GoodIn wsX7_copyFrom wsX9_copyFrom := goodIn_r _ [8, 9, 10, 11, 12, 7, 13, 14, 15, 16, 17, 18, 48, 49, 50, 51, 52, 53] (by decide +kernel) (by decide +kernel)
set_option maxRecDepth 20000 in
theorem gX7_copyFrom_X9_copyFrom : GoodIn wsX7_copyFrom (wsV RX7 30 RX9 yX9_copyFrom wsX9_copyFrom) := goodIn_app (goodIn_of _ (by decide +kernel)) ggX7_copyFrom_X9_copyFrom
set_option maxRecDepth 20000 in
theorem ggX7_copyFrom_X6_copyFrom : GoodIn wsX7_copyFrom wsX6_copyFrom := goodIn_r _ [23, 24, 25, 26, 27, 28, 29, 30, 31, 32, 54, 55, 56, 57, 58, 59, 60, 61, 62] (by decide +kernel) (by decide +kernel)
set_option maxRecDepth 20000 in
theorem gX7_copyFrom_X6_copyFrom : GoodIn wsX7_copyFrom (wsV RX7 34 RX6 yX6_copyFrom wsX6_copyFrom) := goodIn_app (goodIn_of _ (by decide +kernel)) ggX7_copyFrom_X6_copyFrom
set_option maxRecDepth 20000 in
theorem ggX7_copyFrom_X1_copyFrom : GoodIn wsX7_copyFrom wsX1_copyFrom := goodIn_r _ [37, 38, 39, 40, 41, 36, 42, 43, 44, 63, 64, 65] (by decide +kernel) (by decide +kernel)
set_option maxRecDepth 20000 in
theorem gX7_copyFrom_X1_copyFrom : GoodIn wsX7_copyFrom (wsV RX7 37 RX1 yX1_copyFrom wsX1_copyFrom) := goodIn_app (goodIn_of _ (by decide +kernel)) ggX7_copyFrom_X1_copyFrom
theorem dX7_copyFrom_0 : decode cX7_copyFrom 0 = .ok (.aload_n 0, 1) := by decide +kernel
theorem dX7_copyFrom_1 : decode cX7_copyFrom 1 = .ok (.getfield 10, 3) := by decide +kernel
theorem dX7_copyFrom_4 : decode cX7_copyFrom 4 = .ok (.aload_n 1, 1) := by decide +kernel
theorem dX7_copyFrom_5 : decode cX7_copyFrom 5 = .ok (.getfield 10, 3) := by decide +kernel
theorem dX7_copyFrom_8 : decode cX7_copyFrom 8 = .ok (.invokevirtual 30, 3) := by decide +kernel
theorem dX7_copyFrom_11 : decode cX7_copyFrom 11 = .ok (.aload_n 0, 1) := by decide +kernel
theorem dX7_copyFrom_12 : decode cX7_copyFrom 12 = .ok (.getfield 19, 3) := by decide +kernel
theorem dX7_copyFrom_15 : decode cX7_copyFrom 15 = .ok (.aload_n 1, 1) := by decide +kernel
theorem dX7_copyFrom_16 : decode cX7_copyFrom 16 = .ok (.getfield 19, 3) := by decide +kernel
theorem dX7_copyFrom_19 : decode cX7_copyFrom 19 = .ok (.invokevirtual 34, 3) := by decide +kernel
theorem dX7_copyFrom_22 : decode cX7_copyFrom 22 = .ok (.aload_n 0, 1) := by decide +kernel
theorem dX7_copyFrom_23 : decode cX7_copyFrom 23 = .ok (.getfield 26, 3) := by decide +kernel
theorem dX7_copyFrom_26 : decode cX7_copyFrom 26 = .ok (.aload_n 1, 1) := by decide +kernel
theorem dX7_copyFrom_27 : decode cX7_copyFrom 27 = .ok (.getfield 26, 3) := by decide +kernel
theorem dX7_copyFrom_30 : decode cX7_copyFrom 30 = .ok (.invokevirtual 37, 3) := by decide +kernel
theorem dX7_copyFrom_33 : decode cX7_copyFrom 33 = .ok (.return_, 1) := by decide +kernel
theorem dX8_init_0 : decode cX8_init 0 = .ok (.aload_n 0, 1) := by decide +kernel
theorem dX8_init_1 : decode cX8_init 1 = .ok (.invokespecial 3, 3) := by decide +kernel
theorem dX8_init_4 : decode cX8_init 4 = .ok (.aload_n 0, 1) := by decide +kernel
theorem dX8_init_5 : decode cX8_init 5 = .ok (.sipush 150, 3) := by decide +kernel
theorem dX8_init_8 : decode cX8_init 8 = .ok (.newarray .int, 2) := by decide +kernel
theorem dX8_init_10 : decode cX8_init 10 = .ok (.putfield 9, 3) := by decide +kernel
theorem dX8_init_13 : decode cX8_init 13 = .ok (.aload_n 0, 1) := by decide +kernel
theorem dX8_init_14 : decode cX8_init 14 = .ok (.iconst 0, 1) := by decide +kernel
theorem dX8_init_15 : decode cX8_init 15 = .ok (.putfield 15, 3) := by decide +kernel
theorem dX8_init_18 : decode cX8_init 18 = .ok (.return_, 1) := by decide +kernel
theorem dX8_append_0 : decode cX8_append 0 = .ok (.aload_n 0, 1) := by decide +kernel
theorem dX8_append_1 : decode cX8_append 1 = .ok (.getfield 15, 3) := by decide +kernel
theorem dX8_append_4 : decode cX8_append 4 = .ok (.sipush 150, 3) := by decide +kernel
theorem dX8_append_7 : decode cX8_append 7 = .ok (.if_icmp .ge 23, 3) := by decide +kernel
theorem dX8_append_10 : decode cX8_append 10 = .ok (.aload_n 0, 1) := by decide +kernel
theorem dX8_append_11 : decode cX8_append 11 = .ok (.getfield 9, 3) := by decide +kernel
theorem dX8_append_14 : decode cX8_append 14 = .ok (.aload_n 0, 1) := by decide +kernel
theorem dX8_append_15 : decode cX8_append 15 = .ok (.getfield 15, 3) := by decide +kernel
theorem dX8_append_18 : decode cX8_append 18 = .ok (.iload_n 1, 1) := by decide +kernel
theorem dX8_append_19 : decode cX8_append 19 = .ok (.iastore, 1) := by decide +kernel
theorem dX8_append_20 : decode cX8_append 20 = .ok (.aload_n 0, 1) := by decide +kernel
theorem dX8_append_21 : decode cX8_append 21 = .ok (.dup, 1) := by decide +kernel
theorem dX8_append_22 : decode cX8_append 22 = .ok (.getfield 15, 3) := by decide +kernel
theorem dX8_append_25 : decode cX8_append 25 = .ok (.iconst 1, 1) := by decide +kernel
theorem dX8_append_26 : decode cX8_append 26 = .ok (.iadd, 1) := by decide +kernel
theorem dX8_append_27 : decode cX8_append 27 = .ok (.putfield 15, 3) := by decide +kernel
theorem dX8_append_30 : decode cX8_append 30 = .ok (.return_, 1) := by decide +kernel
set_option maxRecDepth 20000 in
theorem ggX8_lexemeEnd_X8_kindAt : GoodIn wsX8_lexemeEnd wsX8_kindAt := goodIn_r _ [6, 1, 7, 8, 9, 10, 11, 12] (by decide +kernel) (by decide +kernel)
set_option maxRecDepth 20000 in
theorem gX8_lexemeEnd_X8_kindAt : GoodIn wsX8_lexemeEnd (wsV RX8 19 RX8 yX8_kindAt wsX8_kindAt) := goodIn_app (goodIn_of _ (by decide +kernel)) ggX8_lexemeEnd_X8_kindAt
theorem dX8_lexemeEnd_0 : decode cX8_lexemeEnd 0 = .ok (.aload_n 0, 1) := by decide +kernel
theorem dX8_lexemeEnd_1 : decode cX8_lexemeEnd 1 = .ok (.iload_n 1, 1) := by decide +kernel
theorem dX8_lexemeEnd_2 : decode cX8_lexemeEnd 2 = .ok (.invokevirtual 19, 3) := by decide +kernel
theorem dX8_lexemeEnd_5 : decode cX8_lexemeEnd 5 = .ok (.istore_n 2, 1) := by decide +kernel
theorem dX8_lexemeEnd_6 : decode cX8_lexemeEnd 6 = .ok (.iload_n 1, 1) := by decide +kernel
theorem dX8_lexemeEnd_7 : decode cX8_lexemeEnd 7 = .ok (.iconst 1, 1) := by decide +kernel
theorem dX8_lexemeEnd_8 : decode cX8_lexemeEnd 8 = .ok (.iadd, 1) := by decide +kernel
theorem dX8_lexemeEnd_9 : decode cX8_lexemeEnd 9 = .ok (.istore_n 3, 1) := by decide +kernel
theorem dX8_lexemeEnd_10 : decode cX8_lexemeEnd 10 = .ok (.iload_n 2, 1) := by decide +kernel
theorem dX8_lexemeEnd_11 : decode cX8_lexemeEnd 11 = .ok (.iconst 2, 1) := by decide +kernel
theorem dX8_lexemeEnd_12 : decode cX8_lexemeEnd 12 = .ok (.if_icmp .ne 20, 3) := by decide +kernel
theorem dX8_lexemeEnd_15 : decode cX8_lexemeEnd 15 = .ok (.aload_n 0, 1) := by decide +kernel
theorem dX8_lexemeEnd_16 : decode cX8_lexemeEnd 16 = .ok (.iload_n 3, 1) := by decide +kernel
theorem dX8_lexemeEnd_17 : decode cX8_lexemeEnd 17 = .ok (.invokevirtual 19, 3) := by decide +kernel
theorem dX8_lexemeEnd_20 : decode cX8_lexemeEnd 20 = .ok (.iconst 1, 1) := by decide +kernel
theorem dX8_lexemeEnd_21 : decode cX8_lexemeEnd 21 = .ok (.if_icmp .ne 9, 3) := by decide +kernel
theorem dX8_lexemeEnd_24 : decode cX8_lexemeEnd 24 = .ok (.iload_n 3, 1) := by decide +kernel
theorem dX8_lexemeEnd_25 : decode cX8_lexemeEnd 25 = .ok (.iconst 1, 1) := by decide +kernel
theorem dX8_lexemeEnd_26 : decode cX8_lexemeEnd 26 = .ok (.iadd, 1) := by decide +kernel
theorem dX8_lexemeEnd_27 : decode cX8_lexemeEnd 27 = .ok (.goto 4, 3) := by decide +kernel
theorem dX8_lexemeEnd_30 : decode cX8_lexemeEnd 30 = .ok (.iload_n 3, 1) := by decide +kernel
theorem dX8_lexemeEnd_31 : decode cX8_lexemeEnd 31 = .ok (.ireturn, 1) := by decide +kernel
theorem dX8_lexemeEnd_32 : decode cX8_lexemeEnd 32 = .ok (.iload_n 2, 1) := by decide +kernel
theorem dX8_lexemeEnd_33 : decode cX8_lexemeEnd 33 = .ok (.ifCond .ne 5, 3) := by decide +kernel
theorem dX8_lexemeEnd_36 : decode cX8_lexemeEnd 36 = .ok (.iload_n 3, 1) := by decide +kernel
theorem dX8_lexemeEnd_37 : decode cX8_lexemeEnd 37 = .ok (.ireturn, 1) := by decide +kernel
theorem dX8_lexemeEnd_38 : decode cX8_lexemeEnd 38 = .ok (.iload_n 3, 1) := by decide +kernel
theorem dX8_lexemeEnd_39 : decode cX8_lexemeEnd 39 = .ok (.aload_n 0, 1) := by decide +kernel
theorem dX8_lexemeEnd_40 : decode cX8_lexemeEnd 40 = .ok (.getfield 15, 3) := by decide +kernel
theorem dX8_lexemeEnd_43 : decode cX8_lexemeEnd 43 = .ok (.if_icmp .ge 18, 3) := by decide +kernel
theorem dX8_lexemeEnd_46 : decode cX8_lexemeEnd 46 = .ok (.aload_n 0, 1) := by decide +kernel
theorem dX8_lexemeEnd_47 : decode cX8_lexemeEnd 47 = .ok (.iload_n 3, 1) := by decide +kernel
theorem dX8_lexemeEnd_48 : decode cX8_lexemeEnd 48 = .ok (.invokevirtual 19, 3) := by decide +kernel
theorem dX8_lexemeEnd_51 : decode cX8_lexemeEnd 51 = .ok (.iload_n 2, 1) := by decide +kernel
theorem dX8_lexemeEnd_52 : decode cX8_lexemeEnd 52 = .ok (.if_icmp .ne 9, 3) := by decide +kernel
theorem dX8_lexemeEnd_55 : decode cX8_lexemeEnd 55 = .ok (.iinc 3 1, 3) := by decide +kernel
theorem dX8_lexemeEnd_58 : decode cX8_lexemeEnd 58 = .ok (.goto (-20), 3) := by decide +kernel
theorem dX8_lexemeEnd_61 : decode cX8_lexemeEnd 61 = .ok (.iload_n 3, 1) := by decide +kernel
theorem dX8_lexemeEnd_62 : decode cX8_lexemeEnd 62 = .ok (.ireturn, 1) := by decide +kernel
theorem dX8_isWorkWord_0 : decode cX8_isWorkWord 0 = .ok (.iload_n 2, 1) := by decide +kernel
theorem dX8_isWorkWord_1 : decode cX8_isWorkWord 1 = .ok (.iconst 4, 1) := by decide +kernel
theorem dX8_isWorkWord_2 : decode cX8_isWorkWord 2 = .ok (.if_icmp .ne 67, 3) := by decide +kernel
theorem dX8_isWorkWord_5 : decode cX8_isWorkWord 5 = .ok (.iload_n 1, 1) := by decide +kernel
theorem dX8_isWorkWord_6 : decode cX8_isWorkWord 6 = .ok (.iload_n 2, 1) := by decide +kernel
theorem dX8_isWorkWord_7 : decode cX8_isWorkWord 7 = .ok (.iadd, 1) := by decide +kernel
theorem dX8_isWorkWord_8 : decode cX8_isWorkWord 8 = .ok (.aload_n 0, 1) := by decide +kernel
theorem dX8_isWorkWord_9 : decode cX8_isWorkWord 9 = .ok (.getfield 15, 3) := by decide +kernel
theorem dX8_isWorkWord_12 : decode cX8_isWorkWord 12 = .ok (.if_icmp .gt 57, 3) := by decide +kernel
theorem dX8_isWorkWord_15 : decode cX8_isWorkWord 15 = .ok (.aload_n 0, 1) := by decide +kernel
theorem dX8_isWorkWord_16 : decode cX8_isWorkWord 16 = .ok (.getfield 9, 3) := by decide +kernel
theorem dX8_isWorkWord_19 : decode cX8_isWorkWord 19 = .ok (.iload_n 1, 1) := by decide +kernel
theorem dX8_isWorkWord_20 : decode cX8_isWorkWord 20 = .ok (.iaload, 1) := by decide +kernel
theorem dX8_isWorkWord_21 : decode cX8_isWorkWord 21 = .ok (.bipush 119, 2) := by decide +kernel
theorem dX8_isWorkWord_23 : decode cX8_isWorkWord 23 = .ok (.if_icmp .ne 46, 3) := by decide +kernel
theorem dX8_isWorkWord_26 : decode cX8_isWorkWord 26 = .ok (.aload_n 0, 1) := by decide +kernel
theorem dX8_isWorkWord_27 : decode cX8_isWorkWord 27 = .ok (.getfield 9, 3) := by decide +kernel
theorem dX8_isWorkWord_30 : decode cX8_isWorkWord 30 = .ok (.iload_n 1, 1) := by decide +kernel
theorem dX8_isWorkWord_31 : decode cX8_isWorkWord 31 = .ok (.iconst 1, 1) := by decide +kernel
theorem dX8_isWorkWord_32 : decode cX8_isWorkWord 32 = .ok (.iadd, 1) := by decide +kernel
theorem dX8_isWorkWord_33 : decode cX8_isWorkWord 33 = .ok (.iaload, 1) := by decide +kernel
theorem dX8_isWorkWord_34 : decode cX8_isWorkWord 34 = .ok (.bipush 111, 2) := by decide +kernel
theorem dX8_isWorkWord_36 : decode cX8_isWorkWord 36 = .ok (.if_icmp .ne 33, 3) := by decide +kernel
theorem dX8_isWorkWord_39 : decode cX8_isWorkWord 39 = .ok (.aload_n 0, 1) := by decide +kernel
theorem dX8_isWorkWord_40 : decode cX8_isWorkWord 40 = .ok (.getfield 9, 3) := by decide +kernel
theorem dX8_isWorkWord_43 : decode cX8_isWorkWord 43 = .ok (.iload_n 1, 1) := by decide +kernel
theorem dX8_isWorkWord_44 : decode cX8_isWorkWord 44 = .ok (.iconst 2, 1) := by decide +kernel
theorem dX8_isWorkWord_45 : decode cX8_isWorkWord 45 = .ok (.iadd, 1) := by decide +kernel
theorem dX8_isWorkWord_46 : decode cX8_isWorkWord 46 = .ok (.iaload, 1) := by decide +kernel
theorem dX8_isWorkWord_47 : decode cX8_isWorkWord 47 = .ok (.bipush 114, 2) := by decide +kernel
theorem dX8_isWorkWord_49 : decode cX8_isWorkWord 49 = .ok (.if_icmp .ne 20, 3) := by decide +kernel
theorem dX8_isWorkWord_52 : decode cX8_isWorkWord 52 = .ok (.aload_n 0, 1) := by decide +kernel
theorem dX8_isWorkWord_53 : decode cX8_isWorkWord 53 = .ok (.getfield 9, 3) := by decide +kernel
theorem dX8_isWorkWord_56 : decode cX8_isWorkWord 56 = .ok (.iload_n 1, 1) := by decide +kernel
theorem dX8_isWorkWord_57 : decode cX8_isWorkWord 57 = .ok (.iconst 3, 1) := by decide +kernel
theorem dX8_isWorkWord_58 : decode cX8_isWorkWord 58 = .ok (.iadd, 1) := by decide +kernel
theorem dX8_isWorkWord_59 : decode cX8_isWorkWord 59 = .ok (.iaload, 1) := by decide +kernel
theorem dX8_isWorkWord_60 : decode cX8_isWorkWord 60 = .ok (.bipush 107, 2) := by decide +kernel
theorem dX8_isWorkWord_62 : decode cX8_isWorkWord 62 = .ok (.if_icmp .ne 7, 3) := by decide +kernel
theorem dX8_isWorkWord_65 : decode cX8_isWorkWord 65 = .ok (.iconst 1, 1) := by decide +kernel
theorem dX8_isWorkWord_66 : decode cX8_isWorkWord 66 = .ok (.goto 4, 3) := by decide +kernel
theorem dX8_isWorkWord_69 : decode cX8_isWorkWord 69 = .ok (.iconst 0, 1) := by decide +kernel
theorem dX8_isWorkWord_70 : decode cX8_isWorkWord 70 = .ok (.ireturn, 1) := by decide +kernel
set_option maxRecDepth 20000 in
theorem ggX8_isAuthor_X8_kindAt : GoodIn wsX8_isAuthor wsX8_kindAt := goodIn_r _ [5, 6, 7, 8, 9, 10, 11, 12] (by decide +kernel) (by decide +kernel)
set_option maxRecDepth 20000 in
theorem gX8_isAuthor_X8_kindAt : GoodIn wsX8_isAuthor (wsV RX8 19 RX8 yX8_kindAt wsX8_kindAt) := goodIn_app (goodIn_of _ (by decide +kernel)) ggX8_isAuthor_X8_kindAt
theorem dX8_isAuthor_0 : decode cX8_isAuthor 0 = .ok (.iload_n 2, 1) := by decide +kernel
theorem dX8_isAuthor_1 : decode cX8_isAuthor 1 = .ok (.iconst 2, 1) := by decide +kernel
theorem dX8_isAuthor_2 : decode cX8_isAuthor 2 = .ok (.if_icmp .ne 16, 3) := by decide +kernel
theorem dX8_isAuthor_5 : decode cX8_isAuthor 5 = .ok (.aload_n 0, 1) := by decide +kernel
theorem dX8_isAuthor_6 : decode cX8_isAuthor 6 = .ok (.iload_n 1, 1) := by decide +kernel
theorem dX8_isAuthor_7 : decode cX8_isAuthor 7 = .ok (.invokevirtual 19, 3) := by decide +kernel
theorem dX8_isAuthor_10 : decode cX8_isAuthor 10 = .ok (.iconst 2, 1) := by decide +kernel
theorem dX8_isAuthor_11 : decode cX8_isAuthor 11 = .ok (.if_icmp .ne 7, 3) := by decide +kernel
theorem dX8_isAuthor_14 : decode cX8_isAuthor 14 = .ok (.iconst 1, 1) := by decide +kernel
theorem dX8_isAuthor_15 : decode cX8_isAuthor 15 = .ok (.goto 4, 3) := by decide +kernel
theorem dX8_isAuthor_18 : decode cX8_isAuthor 18 = .ok (.iconst 0, 1) := by decide +kernel
theorem dX8_isAuthor_19 : decode cX8_isAuthor 19 = .ok (.ireturn, 1) := by decide +kernel
set_option maxRecDepth 20000 in
theorem ggX8_isYear_X8_kindAt : GoodIn wsX8_isYear wsX8_kindAt := goodIn_r _ [5, 6, 7, 8, 9, 10, 11, 12] (by decide +kernel) (by decide +kernel)
set_option maxRecDepth 20000 in
theorem gX8_isYear_X8_kindAt : GoodIn wsX8_isYear (wsV RX8 19 RX8 yX8_kindAt wsX8_kindAt) := goodIn_app (goodIn_of _ (by decide +kernel)) ggX8_isYear_X8_kindAt
theorem dX8_isYear_0 : decode cX8_isYear 0 = .ok (.iload_n 2, 1) := by decide +kernel
theorem dX8_isYear_1 : decode cX8_isYear 1 = .ok (.iconst 2, 1) := by decide +kernel
theorem dX8_isYear_2 : decode cX8_isYear 2 = .ok (.if_icmp .ne 16, 3) := by decide +kernel
theorem dX8_isYear_5 : decode cX8_isYear 5 = .ok (.aload_n 0, 1) := by decide +kernel
theorem dX8_isYear_6 : decode cX8_isYear 6 = .ok (.iload_n 1, 1) := by decide +kernel
theorem dX8_isYear_7 : decode cX8_isYear 7 = .ok (.invokevirtual 19, 3) := by decide +kernel
theorem dX8_isYear_10 : decode cX8_isYear 10 = .ok (.iconst 3, 1) := by decide +kernel
theorem dX8_isYear_11 : decode cX8_isYear 11 = .ok (.if_icmp .ne 7, 3) := by decide +kernel
theorem dX8_isYear_14 : decode cX8_isYear 14 = .ok (.iconst 1, 1) := by decide +kernel
theorem dX8_isYear_15 : decode cX8_isYear 15 = .ok (.goto 4, 3) := by decide +kernel
theorem dX8_isYear_18 : decode cX8_isYear 18 = .ok (.iconst 0, 1) := by decide +kernel
theorem dX8_isYear_19 : decode cX8_isYear 19 = .ok (.ireturn, 1) := by decide +kernel
set_option maxRecDepth 20000 in
theorem ggX8_isTitle_X8_kindAt : GoodIn wsX8_isTitle wsX8_kindAt := goodIn_r _ [5, 6, 7, 8, 9, 10, 11, 12] (by decide +kernel) (by decide +kernel)
set_option maxRecDepth 20000 in
theorem gX8_isTitle_X8_kindAt : GoodIn wsX8_isTitle (wsV RX8 19 RX8 yX8_kindAt wsX8_kindAt) := goodIn_app (goodIn_of _ (by decide +kernel)) ggX8_isTitle_X8_kindAt
theorem dX8_isTitle_0 : decode cX8_isTitle 0 = .ok (.iload_n 2, 1) := by decide +kernel
theorem dX8_isTitle_1 : decode cX8_isTitle 1 = .ok (.iconst 1, 1) := by decide +kernel
theorem dX8_isTitle_2 : decode cX8_isTitle 2 = .ok (.if_icmp .ne 16, 3) := by decide +kernel
theorem dX8_isTitle_5 : decode cX8_isTitle 5 = .ok (.aload_n 0, 1) := by decide +kernel
theorem dX8_isTitle_6 : decode cX8_isTitle 6 = .ok (.iload_n 1, 1) := by decide +kernel
theorem dX8_isTitle_7 : decode cX8_isTitle 7 = .ok (.invokevirtual 19, 3) := by decide +kernel
theorem dX8_isTitle_10 : decode cX8_isTitle 10 = .ok (.iconst 1, 1) := by decide +kernel
theorem dX8_isTitle_11 : decode cX8_isTitle 11 = .ok (.if_icmp .ne 7, 3) := by decide +kernel
theorem dX8_isTitle_14 : decode cX8_isTitle 14 = .ok (.iconst 1, 1) := by decide +kernel
theorem dX8_isTitle_15 : decode cX8_isTitle 15 = .ok (.goto 4, 3) := by decide +kernel
theorem dX8_isTitle_18 : decode cX8_isTitle 18 = .ok (.iconst 0, 1) := by decide +kernel
theorem dX8_isTitle_19 : decode cX8_isTitle 19 = .ok (.ireturn, 1) := by decide +kernel
set_option maxRecDepth 20000 in
theorem ggX8_kindAt_X11_inRange : GoodIn wsX8_kindAt wsX11_inRange := goodIn_r _ [5] (by decide +kernel) (by decide +kernel)
set_option maxRecDepth 20000 in
theorem gX8_kindAt_X11_inRange_n23 : GoodIn wsX8_kindAt (wsX11_inRange) := ggX8_kindAt_X11_inRange
theorem dX8_kindAt_0 : decode cX8_kindAt 0 = .ok (.iload_n 1, 1) := by decide +kernel
theorem dX8_kindAt_1 : decode cX8_kindAt 1 = .ok (.aload_n 0, 1) := by decide +kernel
theorem dX8_kindAt_2 : decode cX8_kindAt 2 = .ok (.getfield 15, 3) := by decide +kernel
theorem dX8_kindAt_5 : decode cX8_kindAt 5 = .ok (.if_icmp .lt 5, 3) := by decide +kernel
theorem dX8_kindAt_8 : decode cX8_kindAt 8 = .ok (.iconst 0, 1) := by decide +kernel
theorem dX8_kindAt_9 : decode cX8_kindAt 9 = .ok (.ireturn, 1) := by decide +kernel
theorem dX8_kindAt_10 : decode cX8_kindAt 10 = .ok (.aload_n 0, 1) := by decide +kernel
theorem dX8_kindAt_11 : decode cX8_kindAt 11 = .ok (.getfield 9, 3) := by decide +kernel
theorem dX8_kindAt_14 : decode cX8_kindAt 14 = .ok (.iload_n 1, 1) := by decide +kernel
theorem dX8_kindAt_15 : decode cX8_kindAt 15 = .ok (.iaload, 1) := by decide +kernel
theorem dX8_kindAt_16 : decode cX8_kindAt 16 = .ok (.istore_n 2, 1) := by decide +kernel
theorem dX8_kindAt_17 : decode cX8_kindAt 17 = .ok (.iload_n 2, 1) := by decide +kernel
theorem dX8_kindAt_18 : decode cX8_kindAt 18 = .ok (.bipush 97, 2) := by decide +kernel
theorem dX8_kindAt_20 : decode cX8_kindAt 20 = .ok (.bipush 122, 2) := by decide +kernel
theorem dX8_kindAt_22 : decode cX8_kindAt 22 = .ok (.invokestatic 23, 3) := by decide +kernel
theorem dX8_kindAt_25 : decode cX8_kindAt 25 = .ok (.ifCond .eq 5, 3) := by decide +kernel
theorem dX8_kindAt_28 : decode cX8_kindAt 28 = .ok (.iconst 1, 1) := by decide +kernel
theorem dX8_kindAt_29 : decode cX8_kindAt 29 = .ok (.ireturn, 1) := by decide +kernel
theorem dX8_kindAt_30 : decode cX8_kindAt 30 = .ok (.iload_n 2, 1) := by decide +kernel
theorem dX8_kindAt_31 : decode cX8_kindAt 31 = .ok (.bipush 65, 2) := by decide +kernel
theorem dX8_kindAt_33 : decode cX8_kindAt 33 = .ok (.bipush 90, 2) := by decide +kernel
theorem dX8_kindAt_35 : decode cX8_kindAt 35 = .ok (.invokestatic 23, 3) := by decide +kernel
theorem dX8_kindAt_38 : decode cX8_kindAt 38 = .ok (.ifCond .eq 5, 3) := by decide +kernel
theorem dX8_kindAt_41 : decode cX8_kindAt 41 = .ok (.iconst 2, 1) := by decide +kernel
theorem dX8_kindAt_42 : decode cX8_kindAt 42 = .ok (.ireturn, 1) := by decide +kernel
theorem dX8_kindAt_43 : decode cX8_kindAt 43 = .ok (.iload_n 2, 1) := by decide +kernel
theorem dX8_kindAt_44 : decode cX8_kindAt 44 = .ok (.bipush 48, 2) := by decide +kernel
theorem dX8_kindAt_46 : decode cX8_kindAt 46 = .ok (.bipush 57, 2) := by decide +kernel
theorem dX8_kindAt_48 : decode cX8_kindAt 48 = .ok (.invokestatic 23, 3) := by decide +kernel
theorem dX8_kindAt_51 : decode cX8_kindAt 51 = .ok (.ifCond .eq 7, 3) := by decide +kernel
theorem dX8_kindAt_54 : decode cX8_kindAt 54 = .ok (.iconst 3, 1) := by decide +kernel
theorem dX8_kindAt_55 : decode cX8_kindAt 55 = .ok (.goto 4, 3) := by decide +kernel
theorem dX8_kindAt_58 : decode cX8_kindAt 58 = .ok (.iconst 0, 1) := by decide +kernel
theorem dX8_kindAt_59 : decode cX8_kindAt 59 = .ok (.ireturn, 1) := by decide +kernel
theorem dX9_init_0 : decode cX9_init 0 = .ok (.aload_n 0, 1) := by decide +kernel
theorem dX9_init_1 : decode cX9_init 1 = .ok (.invokespecial 3, 3) := by decide +kernel
theorem dX9_init_4 : decode cX9_init 4 = .ok (.aload_n 0, 1) := by decide +kernel
theorem dX9_init_5 : decode cX9_init 5 = .ok (.iconst 0, 1) := by decide +kernel
theorem dX9_init_6 : decode cX9_init 6 = .ok (.putfield 9, 3) := by decide +kernel
theorem dX9_init_9 : decode cX9_init 9 = .ok (.aload_n 0, 1) := by decide +kernel
theorem dX9_init_10 : decode cX9_init 10 = .ok (.bipush 8, 2) := by decide +kernel
theorem dX9_init_12 : decode cX9_init 12 = .ok (.newarray .int, 2) := by decide +kernel
theorem dX9_init_14 : decode cX9_init 14 = .ok (.putfield 15, 3) := by decide +kernel
theorem dX9_init_17 : decode cX9_init 17 = .ok (.aload_n 0, 1) := by decide +kernel
theorem dX9_init_18 : decode cX9_init 18 = .ok (.bipush 32, 2) := by decide +kernel
theorem dX9_init_20 : decode cX9_init 20 = .ok (.newarray .int, 2) := by decide +kernel
theorem dX9_init_22 : decode cX9_init 22 = .ok (.putfield 19, 3) := by decide +kernel
theorem dX9_init_25 : decode cX9_init 25 = .ok (.aload_n 0, 1) := by decide +kernel
theorem dX9_init_26 : decode cX9_init 26 = .ok (.bipush 32, 2) := by decide +kernel
theorem dX9_init_28 : decode cX9_init 28 = .ok (.newarray .int, 2) := by decide +kernel
theorem dX9_init_30 : decode cX9_init 30 = .ok (.putfield 22, 3) := by decide +kernel
theorem dX9_init_33 : decode cX9_init 33 = .ok (.aload_n 0, 1) := by decide +kernel
theorem dX9_init_34 : decode cX9_init 34 = .ok (.bipush 8, 2) := by decide +kernel
theorem dX9_init_36 : decode cX9_init 36 = .ok (.newarray .int, 2) := by decide +kernel
theorem dX9_init_38 : decode cX9_init 38 = .ok (.putfield 25, 3) := by decide +kernel
theorem dX9_init_41 : decode cX9_init 41 = .ok (.aload_n 0, 1) := by decide +kernel
theorem dX9_init_42 : decode cX9_init 42 = .ok (.bipush 8, 2) := by decide +kernel
theorem dX9_init_44 : decode cX9_init 44 = .ok (.newarray .int, 2) := by decide +kernel
theorem dX9_init_46 : decode cX9_init 46 = .ok (.putfield 28, 3) := by decide +kernel
theorem dX9_init_49 : decode cX9_init 49 = .ok (.return_, 1) := by decide +kernel
theorem dX9_has_0 : decode cX9_has 0 = .ok (.iload_n 1, 1) := by decide +kernel
theorem dX9_has_1 : decode cX9_has 1 = .ok (.ifCond .lt 15, 3) := by decide +kernel
theorem dX9_has_4 : decode cX9_has 4 = .ok (.iload_n 1, 1) := by decide +kernel
theorem dX9_has_5 : decode cX9_has 5 = .ok (.aload_n 0, 1) := by decide +kernel
theorem dX9_has_6 : decode cX9_has 6 = .ok (.getfield 9, 3) := by decide +kernel
theorem dX9_has_9 : decode cX9_has 9 = .ok (.if_icmp .ge 7, 3) := by decide +kernel
theorem dX9_has_12 : decode cX9_has 12 = .ok (.iconst 1, 1) := by decide +kernel
theorem dX9_has_13 : decode cX9_has 13 = .ok (.goto 4, 3) := by decide +kernel
theorem dX9_has_16 : decode cX9_has 16 = .ok (.iconst 0, 1) := by decide +kernel
theorem dX9_has_17 : decode cX9_has 17 = .ok (.ireturn, 1) := by decide +kernel
set_option maxRecDepth 20000 in
theorem ggX9_copyFrom_X9_copyWork : GoodIn wsX9_copyFrom wsX9_copyWork := goodIn_r _ [6, 7, 8, 9, 10, 11, 12, 13, 14, 15, 16, 17] (by decide +kernel) (by decide +kernel)
set_option maxRecDepth 20000 in
theorem gX9_copyFrom_X9_copyWork : GoodIn wsX9_copyFrom (wsV RX9 31 RX9 yX9_copyWork wsX9_copyWork) := goodIn_app (goodIn_of _ (by decide +kernel)) ggX9_copyFrom_X9_copyWork
theorem dX9_copyFrom_0 : decode cX9_copyFrom 0 = .ok (.aload_n 0, 1) := by decide +kernel
theorem dX9_copyFrom_1 : decode cX9_copyFrom 1 = .ok (.aload_n 1, 1) := by decide +kernel
theorem dX9_copyFrom_2 : decode cX9_copyFrom 2 = .ok (.getfield 9, 3) := by decide +kernel
theorem dX9_copyFrom_5 : decode cX9_copyFrom 5 = .ok (.putfield 9, 3) := by decide +kernel
theorem dX9_copyFrom_8 : decode cX9_copyFrom 8 = .ok (.iconst 0, 1) := by decide +kernel
theorem dX9_copyFrom_9 : decode cX9_copyFrom 9 = .ok (.istore_n 2, 1) := by decide +kernel
theorem dX9_copyFrom_10 : decode cX9_copyFrom 10 = .ok (.iload_n 2, 1) := by decide +kernel
theorem dX9_copyFrom_11 : decode cX9_copyFrom 11 = .ok (.aload_n 0, 1) := by decide +kernel
theorem dX9_copyFrom_12 : decode cX9_copyFrom 12 = .ok (.getfield 9, 3) := by decide +kernel
theorem dX9_copyFrom_15 : decode cX9_copyFrom 15 = .ok (.if_icmp .ge 16, 3) := by decide +kernel
theorem dX9_copyFrom_18 : decode cX9_copyFrom 18 = .ok (.aload_n 0, 1) := by decide +kernel
theorem dX9_copyFrom_19 : decode cX9_copyFrom 19 = .ok (.aload_n 1, 1) := by decide +kernel
theorem dX9_copyFrom_20 : decode cX9_copyFrom 20 = .ok (.iload_n 2, 1) := by decide +kernel
theorem dX9_copyFrom_21 : decode cX9_copyFrom 21 = .ok (.iload_n 2, 1) := by decide +kernel
theorem dX9_copyFrom_22 : decode cX9_copyFrom 22 = .ok (.invokevirtual 31, 3) := by decide +kernel
theorem dX9_copyFrom_25 : decode cX9_copyFrom 25 = .ok (.iinc 2 1, 3) := by decide +kernel
theorem dX9_copyFrom_28 : decode cX9_copyFrom 28 = .ok (.goto (-18), 3) := by decide +kernel
theorem dX9_copyFrom_31 : decode cX9_copyFrom 31 = .ok (.return_, 1) := by decide +kernel
set_option maxRecDepth 20000 in
theorem ggX9_removeAt_X9_copyWork : GoodIn wsX9_removeAt wsX9_copyWork := goodIn_r _ [6, 7, 8, 9, 10, 11, 12, 13, 14, 15, 16, 17] (by decide +kernel) (by decide +kernel)
set_option maxRecDepth 20000 in
theorem gX9_removeAt_X9_copyWork : GoodIn wsX9_removeAt (wsV RX9 31 RX9 yX9_copyWork wsX9_copyWork) := goodIn_app (goodIn_of _ (by decide +kernel)) ggX9_removeAt_X9_copyWork
theorem dX9_removeAt_0 : decode cX9_removeAt 0 = .ok (.iload_n 1, 1) := by decide +kernel
theorem dX9_removeAt_1 : decode cX9_removeAt 1 = .ok (.iconst 1, 1) := by decide +kernel
theorem dX9_removeAt_2 : decode cX9_removeAt 2 = .ok (.iadd, 1) := by decide +kernel
theorem dX9_removeAt_3 : decode cX9_removeAt 3 = .ok (.istore_n 2, 1) := by decide +kernel
theorem dX9_removeAt_4 : decode cX9_removeAt 4 = .ok (.iload_n 2, 1) := by decide +kernel
theorem dX9_removeAt_5 : decode cX9_removeAt 5 = .ok (.aload_n 0, 1) := by decide +kernel
theorem dX9_removeAt_6 : decode cX9_removeAt 6 = .ok (.getfield 9, 3) := by decide +kernel
theorem dX9_removeAt_9 : decode cX9_removeAt 9 = .ok (.if_icmp .ge 18, 3) := by decide +kernel
theorem dX9_removeAt_12 : decode cX9_removeAt 12 = .ok (.aload_n 0, 1) := by decide +kernel
theorem dX9_removeAt_13 : decode cX9_removeAt 13 = .ok (.aload_n 0, 1) := by decide +kernel
theorem dX9_removeAt_14 : decode cX9_removeAt 14 = .ok (.iload_n 2, 1) := by decide +kernel
theorem dX9_removeAt_15 : decode cX9_removeAt 15 = .ok (.iload_n 2, 1) := by decide +kernel
theorem dX9_removeAt_16 : decode cX9_removeAt 16 = .ok (.iconst 1, 1) := by decide +kernel
theorem dX9_removeAt_17 : decode cX9_removeAt 17 = .ok (.isub, 1) := by decide +kernel
theorem dX9_removeAt_18 : decode cX9_removeAt 18 = .ok (.invokevirtual 31, 3) := by decide +kernel
theorem dX9_removeAt_21 : decode cX9_removeAt 21 = .ok (.iinc 2 1, 3) := by decide +kernel
theorem dX9_removeAt_24 : decode cX9_removeAt 24 = .ok (.goto (-20), 3) := by decide +kernel
theorem dX9_removeAt_27 : decode cX9_removeAt 27 = .ok (.aload_n 0, 1) := by decide +kernel
theorem dX9_removeAt_28 : decode cX9_removeAt 28 = .ok (.dup, 1) := by decide +kernel
theorem dX9_removeAt_29 : decode cX9_removeAt 29 = .ok (.getfield 9, 3) := by decide +kernel
theorem dX9_removeAt_32 : decode cX9_removeAt 32 = .ok (.iconst 1, 1) := by decide +kernel
theorem dX9_removeAt_33 : decode cX9_removeAt 33 = .ok (.isub, 1) := by decide +kernel
theorem dX9_removeAt_34 : decode cX9_removeAt 34 = .ok (.putfield 9, 3) := by decide +kernel
theorem dX9_removeAt_37 : decode cX9_removeAt 37 = .ok (.return_, 1) := by decide +kernel
theorem dX9_compareAuthors_0 : decode cX9_compareAuthors 0 = .ok (.iconst 0, 1) := by decide +kernel
theorem dX9_compareAuthors_1 : decode cX9_compareAuthors 1 = .ok (.istore_n 3, 1) := by decide +kernel
theorem dX9_compareAuthors_2 : decode cX9_compareAuthors 2 = .ok (.iload_n 3, 1) := by decide +kernel
theorem dX9_compareAuthors_3 : decode cX9_compareAuthors 3 = .ok (.aload_n 0, 1) := by decide +kernel
theorem dX9_compareAuthors_4 : decode cX9_compareAuthors 4 = .ok (.getfield 15, 3) := by decide +kernel
theorem dX9_compareAuthors_7 : decode cX9_compareAuthors 7 = .ok (.iload_n 1, 1) := by decide +kernel
theorem dX9_compareAuthors_8 : decode cX9_compareAuthors 8 = .ok (.iaload, 1) := by decide +kernel
theorem dX9_compareAuthors_9 : decode cX9_compareAuthors 9 = .ok (.if_icmp .ge 99, 3) := by decide +kernel
theorem dX9_compareAuthors_12 : decode cX9_compareAuthors 12 = .ok (.iload_n 3, 1) := by decide +kernel
theorem dX9_compareAuthors_13 : decode cX9_compareAuthors 13 = .ok (.aload_n 0, 1) := by decide +kernel
theorem dX9_compareAuthors_14 : decode cX9_compareAuthors 14 = .ok (.getfield 15, 3) := by decide +kernel
theorem dX9_compareAuthors_17 : decode cX9_compareAuthors 17 = .ok (.iload_n 2, 1) := by decide +kernel
theorem dX9_compareAuthors_18 : decode cX9_compareAuthors 18 = .ok (.iaload, 1) := by decide +kernel
theorem dX9_compareAuthors_19 : decode cX9_compareAuthors 19 = .ok (.if_icmp .ge 89, 3) := by decide +kernel
theorem dX9_compareAuthors_22 : decode cX9_compareAuthors 22 = .ok (.iload_n 1, 1) := by decide +kernel
theorem dX9_compareAuthors_23 : decode cX9_compareAuthors 23 = .ok (.iconst 4, 1) := by decide +kernel
theorem dX9_compareAuthors_24 : decode cX9_compareAuthors 24 = .ok (.imul, 1) := by decide +kernel
theorem dX9_compareAuthors_25 : decode cX9_compareAuthors 25 = .ok (.iload_n 3, 1) := by decide +kernel
theorem dX9_compareAuthors_26 : decode cX9_compareAuthors 26 = .ok (.iadd, 1) := by decide +kernel
theorem dX9_compareAuthors_27 : decode cX9_compareAuthors 27 = .ok (.istore 4, 2) := by decide +kernel
theorem dX9_compareAuthors_29 : decode cX9_compareAuthors 29 = .ok (.iload_n 2, 1) := by decide +kernel
theorem dX9_compareAuthors_30 : decode cX9_compareAuthors 30 = .ok (.iconst 4, 1) := by decide +kernel
theorem dX9_compareAuthors_31 : decode cX9_compareAuthors 31 = .ok (.imul, 1) := by decide +kernel
theorem dX9_compareAuthors_32 : decode cX9_compareAuthors 32 = .ok (.iload_n 3, 1) := by decide +kernel
theorem dX9_compareAuthors_33 : decode cX9_compareAuthors 33 = .ok (.iadd, 1) := by decide +kernel
theorem dX9_compareAuthors_34 : decode cX9_compareAuthors 34 = .ok (.istore 5, 2) := by decide +kernel
theorem dX9_compareAuthors_36 : decode cX9_compareAuthors 36 = .ok (.aload_n 0, 1) := by decide +kernel
theorem dX9_compareAuthors_37 : decode cX9_compareAuthors 37 = .ok (.getfield 19, 3) := by decide +kernel
theorem dX9_compareAuthors_40 : decode cX9_compareAuthors 40 = .ok (.iload 4, 2) := by decide +kernel
theorem dX9_compareAuthors_42 : decode cX9_compareAuthors 42 = .ok (.iaload, 1) := by decide +kernel
theorem dX9_compareAuthors_43 : decode cX9_compareAuthors 43 = .ok (.aload_n 0, 1) := by decide +kernel
theorem dX9_compareAuthors_44 : decode cX9_compareAuthors 44 = .ok (.getfield 19, 3) := by decide +kernel
theorem dX9_compareAuthors_47 : decode cX9_compareAuthors 47 = .ok (.iload 5, 2) := by decide +kernel
theorem dX9_compareAuthors_49 : decode cX9_compareAuthors 49 = .ok (.iaload, 1) := by decide +kernel
theorem dX9_compareAuthors_50 : decode cX9_compareAuthors 50 = .ok (.if_icmp .eq 19, 3) := by decide +kernel
theorem dX9_compareAuthors_53 : decode cX9_compareAuthors 53 = .ok (.aload_n 0, 1) := by decide +kernel
theorem dX9_compareAuthors_54 : decode cX9_compareAuthors 54 = .ok (.getfield 19, 3) := by decide +kernel
theorem dX9_compareAuthors_57 : decode cX9_compareAuthors 57 = .ok (.iload 4, 2) := by decide +kernel
theorem dX9_compareAuthors_59 : decode cX9_compareAuthors 59 = .ok (.iaload, 1) := by decide +kernel
theorem dX9_compareAuthors_60 : decode cX9_compareAuthors 60 = .ok (.aload_n 0, 1) := by decide +kernel
theorem dX9_compareAuthors_61 : decode cX9_compareAuthors 61 = .ok (.getfield 19, 3) := by decide +kernel
theorem dX9_compareAuthors_64 : decode cX9_compareAuthors 64 = .ok (.iload 5, 2) := by decide +kernel
theorem dX9_compareAuthors_66 : decode cX9_compareAuthors 66 = .ok (.iaload, 1) := by decide +kernel
theorem dX9_compareAuthors_67 : decode cX9_compareAuthors 67 = .ok (.isub, 1) := by decide +kernel
theorem dX9_compareAuthors_68 : decode cX9_compareAuthors 68 = .ok (.ireturn, 1) := by decide +kernel
theorem dX9_compareAuthors_69 : decode cX9_compareAuthors 69 = .ok (.aload_n 0, 1) := by decide +kernel
theorem dX9_compareAuthors_70 : decode cX9_compareAuthors 70 = .ok (.getfield 22, 3) := by decide +kernel
theorem dX9_compareAuthors_73 : decode cX9_compareAuthors 73 = .ok (.iload 4, 2) := by decide +kernel
theorem dX9_compareAuthors_75 : decode cX9_compareAuthors 75 = .ok (.iaload, 1) := by decide +kernel
theorem dX9_compareAuthors_76 : decode cX9_compareAuthors 76 = .ok (.aload_n 0, 1) := by decide +kernel
theorem dX9_compareAuthors_77 : decode cX9_compareAuthors 77 = .ok (.getfield 22, 3) := by decide +kernel
theorem dX9_compareAuthors_80 : decode cX9_compareAuthors 80 = .ok (.iload 5, 2) := by decide +kernel
theorem dX9_compareAuthors_82 : decode cX9_compareAuthors 82 = .ok (.iaload, 1) := by decide +kernel
theorem dX9_compareAuthors_83 : decode cX9_compareAuthors 83 = .ok (.if_icmp .eq 19, 3) := by decide +kernel
theorem dX9_compareAuthors_86 : decode cX9_compareAuthors 86 = .ok (.aload_n 0, 1) := by decide +kernel
theorem dX9_compareAuthors_87 : decode cX9_compareAuthors 87 = .ok (.getfield 22, 3) := by decide +kernel
theorem dX9_compareAuthors_90 : decode cX9_compareAuthors 90 = .ok (.iload 4, 2) := by decide +kernel
theorem dX9_compareAuthors_92 : decode cX9_compareAuthors 92 = .ok (.iaload, 1) := by decide +kernel
theorem dX9_compareAuthors_93 : decode cX9_compareAuthors 93 = .ok (.aload_n 0, 1) := by decide +kernel
theorem dX9_compareAuthors_94 : decode cX9_compareAuthors 94 = .ok (.getfield 22, 3) := by decide +kernel
theorem dX9_compareAuthors_97 : decode cX9_compareAuthors 97 = .ok (.iload 5, 2) := by decide +kernel
theorem dX9_compareAuthors_99 : decode cX9_compareAuthors 99 = .ok (.iaload, 1) := by decide +kernel
theorem dX9_compareAuthors_100 : decode cX9_compareAuthors 100 = .ok (.isub, 1) := by decide +kernel
theorem dX9_compareAuthors_101 : decode cX9_compareAuthors 101 = .ok (.ireturn, 1) := by decide +kernel
theorem dX9_compareAuthors_102 : decode cX9_compareAuthors 102 = .ok (.iinc 3 1, 3) := by decide +kernel
theorem dX9_compareAuthors_105 : decode cX9_compareAuthors 105 = .ok (.goto (-103), 3) := by decide +kernel
theorem dX9_compareAuthors_108 : decode cX9_compareAuthors 108 = .ok (.aload_n 0, 1) := by decide +kernel
theorem dX9_compareAuthors_109 : decode cX9_compareAuthors 109 = .ok (.getfield 15, 3) := by decide +kernel
theorem dX9_compareAuthors_112 : decode cX9_compareAuthors 112 = .ok (.iload_n 1, 1) := by decide +kernel
theorem dX9_compareAuthors_113 : decode cX9_compareAuthors 113 = .ok (.iaload, 1) := by decide +kernel
theorem dX9_compareAuthors_114 : decode cX9_compareAuthors 114 = .ok (.aload_n 0, 1) := by decide +kernel
theorem dX9_compareAuthors_115 : decode cX9_compareAuthors 115 = .ok (.getfield 15, 3) := by decide +kernel
theorem dX9_compareAuthors_118 : decode cX9_compareAuthors 118 = .ok (.iload_n 2, 1) := by decide +kernel
theorem dX9_compareAuthors_119 : decode cX9_compareAuthors 119 = .ok (.iaload, 1) := by decide +kernel
theorem dX9_compareAuthors_120 : decode cX9_compareAuthors 120 = .ok (.isub, 1) := by decide +kernel
theorem dX9_compareAuthors_121 : decode cX9_compareAuthors 121 = .ok (.ireturn, 1) := by decide +kernel
theorem dX9_copyWork_0 : decode cX9_copyWork 0 = .ok (.aload_n 0, 1) := by decide +kernel
theorem dX9_copyWork_1 : decode cX9_copyWork 1 = .ok (.getfield 15, 3) := by decide +kernel
theorem dX9_copyWork_4 : decode cX9_copyWork 4 = .ok (.iload_n 3, 1) := by decide +kernel
theorem dX9_copyWork_5 : decode cX9_copyWork 5 = .ok (.aload_n 1, 1) := by decide +kernel
theorem dX9_copyWork_6 : decode cX9_copyWork 6 = .ok (.getfield 15, 3) := by decide +kernel
theorem dX9_copyWork_9 : decode cX9_copyWork 9 = .ok (.iload_n 2, 1) := by decide +kernel
theorem dX9_copyWork_10 : decode cX9_copyWork 10 = .ok (.iaload, 1) := by decide +kernel
theorem dX9_copyWork_11 : decode cX9_copyWork 11 = .ok (.iastore, 1) := by decide +kernel
theorem dX9_copyWork_12 : decode cX9_copyWork 12 = .ok (.aload_n 0, 1) := by decide +kernel
theorem dX9_copyWork_13 : decode cX9_copyWork 13 = .ok (.getfield 25, 3) := by decide +kernel
theorem dX9_copyWork_16 : decode cX9_copyWork 16 = .ok (.iload_n 3, 1) := by decide +kernel
theorem dX9_copyWork_17 : decode cX9_copyWork 17 = .ok (.aload_n 1, 1) := by decide +kernel
theorem dX9_copyWork_18 : decode cX9_copyWork 18 = .ok (.getfield 25, 3) := by decide +kernel
theorem dX9_copyWork_21 : decode cX9_copyWork 21 = .ok (.iload_n 2, 1) := by decide +kernel
theorem dX9_copyWork_22 : decode cX9_copyWork 22 = .ok (.iaload, 1) := by decide +kernel
theorem dX9_copyWork_23 : decode cX9_copyWork 23 = .ok (.iastore, 1) := by decide +kernel
theorem dX9_copyWork_24 : decode cX9_copyWork 24 = .ok (.aload_n 0, 1) := by decide +kernel
theorem dX9_copyWork_25 : decode cX9_copyWork 25 = .ok (.getfield 28, 3) := by decide +kernel
theorem dX9_copyWork_28 : decode cX9_copyWork 28 = .ok (.iload_n 3, 1) := by decide +kernel
theorem dX9_copyWork_29 : decode cX9_copyWork 29 = .ok (.aload_n 1, 1) := by decide +kernel
theorem dX9_copyWork_30 : decode cX9_copyWork 30 = .ok (.getfield 28, 3) := by decide +kernel
theorem dX9_copyWork_33 : decode cX9_copyWork 33 = .ok (.iload_n 2, 1) := by decide +kernel
theorem dX9_copyWork_34 : decode cX9_copyWork 34 = .ok (.iaload, 1) := by decide +kernel
theorem dX9_copyWork_35 : decode cX9_copyWork 35 = .ok (.iastore, 1) := by decide +kernel
theorem dX9_copyWork_36 : decode cX9_copyWork 36 = .ok (.iconst 0, 1) := by decide +kernel
theorem dX9_copyWork_37 : decode cX9_copyWork 37 = .ok (.istore 4, 2) := by decide +kernel
theorem dX9_copyWork_39 : decode cX9_copyWork 39 = .ok (.iload 4, 2) := by decide +kernel
theorem dX9_copyWork_41 : decode cX9_copyWork 41 = .ok (.iconst 4, 1) := by decide +kernel
theorem dX9_copyWork_42 : decode cX9_copyWork 42 = .ok (.if_icmp .ge 53, 3) := by decide +kernel
theorem dX9_copyWork_45 : decode cX9_copyWork 45 = .ok (.aload_n 0, 1) := by decide +kernel
theorem dX9_copyWork_46 : decode cX9_copyWork 46 = .ok (.getfield 19, 3) := by decide +kernel
theorem dX9_copyWork_49 : decode cX9_copyWork 49 = .ok (.iload_n 3, 1) := by decide +kernel
theorem dX9_copyWork_50 : decode cX9_copyWork 50 = .ok (.iconst 4, 1) := by decide +kernel
theorem dX9_copyWork_51 : decode cX9_copyWork 51 = .ok (.imul, 1) := by decide +kernel
theorem dX9_copyWork_52 : decode cX9_copyWork 52 = .ok (.iload 4, 2) := by decide +kernel
theorem dX9_copyWork_54 : decode cX9_copyWork 54 = .ok (.iadd, 1) := by decide +kernel
theorem dX9_copyWork_55 : decode cX9_copyWork 55 = .ok (.aload_n 1, 1) := by decide +kernel
theorem dX9_copyWork_56 : decode cX9_copyWork 56 = .ok (.getfield 19, 3) := by decide +kernel
theorem dX9_copyWork_59 : decode cX9_copyWork 59 = .ok (.iload_n 2, 1) := by decide +kernel
theorem dX9_copyWork_60 : decode cX9_copyWork 60 = .ok (.iconst 4, 1) := by decide +kernel
theorem dX9_copyWork_61 : decode cX9_copyWork 61 = .ok (.imul, 1) := by decide +kernel
theorem dX9_copyWork_62 : decode cX9_copyWork 62 = .ok (.iload 4, 2) := by decide +kernel
theorem dX9_copyWork_64 : decode cX9_copyWork 64 = .ok (.iadd, 1) := by decide +kernel
theorem dX9_copyWork_65 : decode cX9_copyWork 65 = .ok (.iaload, 1) := by decide +kernel
theorem dX9_copyWork_66 : decode cX9_copyWork 66 = .ok (.iastore, 1) := by decide +kernel
theorem dX9_copyWork_67 : decode cX9_copyWork 67 = .ok (.aload_n 0, 1) := by decide +kernel
theorem dX9_copyWork_68 : decode cX9_copyWork 68 = .ok (.getfield 22, 3) := by decide +kernel
theorem dX9_copyWork_71 : decode cX9_copyWork 71 = .ok (.iload_n 3, 1) := by decide +kernel
theorem dX9_copyWork_72 : decode cX9_copyWork 72 = .ok (.iconst 4, 1) := by decide +kernel
theorem dX9_copyWork_73 : decode cX9_copyWork 73 = .ok (.imul, 1) := by decide +kernel
theorem dX9_copyWork_74 : decode cX9_copyWork 74 = .ok (.iload 4, 2) := by decide +kernel
theorem dX9_copyWork_76 : decode cX9_copyWork 76 = .ok (.iadd, 1) := by decide +kernel
theorem dX9_copyWork_77 : decode cX9_copyWork 77 = .ok (.aload_n 1, 1) := by decide +kernel
theorem dX9_copyWork_78 : decode cX9_copyWork 78 = .ok (.getfield 22, 3) := by decide +kernel
theorem dX9_copyWork_81 : decode cX9_copyWork 81 = .ok (.iload_n 2, 1) := by decide +kernel
theorem dX9_copyWork_82 : decode cX9_copyWork 82 = .ok (.iconst 4, 1) := by decide +kernel
theorem dX9_copyWork_83 : decode cX9_copyWork 83 = .ok (.imul, 1) := by decide +kernel
theorem dX9_copyWork_84 : decode cX9_copyWork 84 = .ok (.iload 4, 2) := by decide +kernel
theorem dX9_copyWork_86 : decode cX9_copyWork 86 = .ok (.iadd, 1) := by decide +kernel
theorem dX9_copyWork_87 : decode cX9_copyWork 87 = .ok (.iaload, 1) := by decide +kernel
theorem dX9_copyWork_88 : decode cX9_copyWork 88 = .ok (.iastore, 1) := by decide +kernel
theorem dX9_copyWork_89 : decode cX9_copyWork 89 = .ok (.iinc 4 1, 3) := by decide +kernel
theorem dX9_copyWork_92 : decode cX9_copyWork 92 = .ok (.goto (-53), 3) := by decide +kernel
theorem dX9_copyWork_95 : decode cX9_copyWork 95 = .ok (.return_, 1) := by decide +kernel
set_option maxRecDepth 20000 in
theorem ggX10_init_X9_init : GoodIn wsX10_init wsX9_init := goodIn_r _ [11, 12, 2, 3, 13, 14, 15, 16, 17, 18, 19, 20, 21, 22, 23, 24, 25] (by decide +kernel) (by decide +kernel)
set_option maxRecDepth 20000 in
theorem gX10_init_X9_init_n11 : GoodIn wsX10_init (wsX9_init) := ggX10_init_X9_init
theorem dX10_init_0 : decode cX10_init 0 = .ok (.aload_n 0, 1) := by decide +kernel
theorem dX10_init_1 : decode cX10_init 1 = .ok (.invokespecial 3, 3) := by decide +kernel
theorem dX10_init_4 : decode cX10_init 4 = .ok (.aload_n 0, 1) := by decide +kernel
theorem dX10_init_5 : decode cX10_init 5 = .ok (.new 9, 3) := by decide +kernel
theorem dX10_init_8 : decode cX10_init 8 = .ok (.dup, 1) := by decide +kernel
theorem dX10_init_9 : decode cX10_init 9 = .ok (.invokespecial 11, 3) := by decide +kernel
theorem dX10_init_12 : decode cX10_init 12 = .ok (.putfield 12, 3) := by decide +kernel
theorem dX10_init_15 : decode cX10_init 15 = .ok (.aload_n 0, 1) := by decide +kernel
theorem dX10_init_16 : decode cX10_init 16 = .ok (.iconst 0, 1) := by decide +kernel
theorem dX10_init_17 : decode cX10_init 17 = .ok (.putfield 18, 3) := by decide +kernel
theorem dX10_init_20 : decode cX10_init 20 = .ok (.aload_n 0, 1) := by decide +kernel
theorem dX10_init_21 : decode cX10_init 21 = .ok (.aload_n 1, 1) := by decide +kernel
theorem dX10_init_22 : decode cX10_init 22 = .ok (.putfield 22, 3) := by decide +kernel
theorem dX10_init_25 : decode cX10_init 25 = .ok (.return_, 1) := by decide +kernel
set_option maxRecDepth 20000 in
theorem ggX10_read_X8_lexemeEnd : GoodIn wsX10_read wsX8_lexemeEnd := goodIn_r _ [11, 12, 13, 14, 15, 10, 16, 17, 18, 19, 20, 76, 77] (by decide +kernel) (by decide +kernel)
set_option maxRecDepth 20000 in
theorem gX10_read_X8_lexemeEnd : GoodIn wsX10_read (wsV RX10 38 RX8 yX8_lexemeEnd wsX8_lexemeEnd) := goodIn_app (goodIn_of _ (by decide +kernel)) ggX10_read_X8_lexemeEnd
set_option maxRecDepth 20000 in
theorem ggX10_read_X10_takes : GoodIn wsX10_read wsX10_takes := goodIn_r _ [25, 3, 26, 27, 28, 24, 29, 4, 1, 2, 30, 31, 32, 33, 10, 34, 12, 17, 35, 36, 37, 38, 39, 6, 40, 41, 42, 43, 44, 13, 14, 15, 16, 18, 19, 20, 45, 46, 47, 48, 49, 50, 51, 52, 53, 54, 55, 56, 57, 58, 59, 60, 61, 62, 63, 64, 65, 66, 67, 68, 69, 70, 71, 72, 73, 74, 75, 76, 77] (by decide +kernel) (by decide +kernel)
set_option maxRecDepth 20000 in
theorem gX10_read_X10_takes : GoodIn wsX10_read (wsV RX10 42 RX10 yX10_takes wsX10_takes) := goodIn_app (goodIn_of _ (by decide +kernel)) ggX10_read_X10_takes
theorem dX10_read_0 : decode cX10_read 0 = .ok (.aload_n 0, 1) := by decide +kernel
theorem dX10_read_1 : decode cX10_read 1 = .ok (.getfield 12, 3) := by decide +kernel
theorem dX10_read_4 : decode cX10_read 4 = .ok (.iconst 0, 1) := by decide +kernel
theorem dX10_read_5 : decode cX10_read 5 = .ok (.putfield 26, 3) := by decide +kernel
theorem dX10_read_8 : decode cX10_read 8 = .ok (.aload_n 0, 1) := by decide +kernel
theorem dX10_read_9 : decode cX10_read 9 = .ok (.iconst 0, 1) := by decide +kernel
theorem dX10_read_10 : decode cX10_read 10 = .ok (.putfield 18, 3) := by decide +kernel
theorem dX10_read_13 : decode cX10_read 13 = .ok (.iconst 0, 1) := by decide +kernel
theorem dX10_read_14 : decode cX10_read 14 = .ok (.istore_n 1, 1) := by decide +kernel
theorem dX10_read_15 : decode cX10_read 15 = .ok (.iconst 0, 1) := by decide +kernel
theorem dX10_read_16 : decode cX10_read 16 = .ok (.istore_n 2, 1) := by decide +kernel
theorem dX10_read_17 : decode cX10_read 17 = .ok (.iload_n 2, 1) := by decide +kernel
theorem dX10_read_18 : decode cX10_read 18 = .ok (.aload_n 0, 1) := by decide +kernel
theorem dX10_read_19 : decode cX10_read 19 = .ok (.getfield 22, 3) := by decide +kernel
theorem dX10_read_22 : decode cX10_read 22 = .ok (.getfield 29, 3) := by decide +kernel
theorem dX10_read_25 : decode cX10_read 25 = .ok (.if_icmp .ge 53, 3) := by decide +kernel
theorem dX10_read_28 : decode cX10_read 28 = .ok (.iload_n 2, 1) := by decide +kernel
theorem dX10_read_29 : decode cX10_read 29 = .ok (.iload_n 1, 1) := by decide +kernel
theorem dX10_read_30 : decode cX10_read 30 = .ok (.if_icmp .lt 42, 3) := by decide +kernel
theorem dX10_read_33 : decode cX10_read 33 = .ok (.aload_n 0, 1) := by decide +kernel
theorem dX10_read_34 : decode cX10_read 34 = .ok (.getfield 22, 3) := by decide +kernel
theorem dX10_read_37 : decode cX10_read 37 = .ok (.getfield 34, 3) := by decide +kernel
theorem dX10_read_40 : decode cX10_read 40 = .ok (.iload_n 2, 1) := by decide +kernel
theorem dX10_read_41 : decode cX10_read 41 = .ok (.iaload, 1) := by decide +kernel
theorem dX10_read_42 : decode cX10_read 42 = .ok (.bipush 32, 2) := by decide +kernel
theorem dX10_read_44 : decode cX10_read 44 = .ok (.if_icmp .ne 6, 3) := by decide +kernel
theorem dX10_read_47 : decode cX10_read 47 = .ok (.goto 25, 3) := by decide +kernel
theorem dX10_read_50 : decode cX10_read 50 = .ok (.aload_n 0, 1) := by decide +kernel
theorem dX10_read_51 : decode cX10_read 51 = .ok (.getfield 22, 3) := by decide +kernel
theorem dX10_read_54 : decode cX10_read 54 = .ok (.iload_n 2, 1) := by decide +kernel
theorem dX10_read_55 : decode cX10_read 55 = .ok (.invokevirtual 38, 3) := by decide +kernel
theorem dX10_read_58 : decode cX10_read 58 = .ok (.istore_n 1, 1) := by decide +kernel
theorem dX10_read_59 : decode cX10_read 59 = .ok (.aload_n 0, 1) := by decide +kernel
theorem dX10_read_60 : decode cX10_read 60 = .ok (.iload_n 2, 1) := by decide +kernel
theorem dX10_read_61 : decode cX10_read 61 = .ok (.iload_n 1, 1) := by decide +kernel
theorem dX10_read_62 : decode cX10_read 62 = .ok (.iload_n 2, 1) := by decide +kernel
theorem dX10_read_63 : decode cX10_read 63 = .ok (.isub, 1) := by decide +kernel
theorem dX10_read_64 : decode cX10_read 64 = .ok (.invokevirtual 42, 3) := by decide +kernel
theorem dX10_read_67 : decode cX10_read 67 = .ok (.ifCond .ne 5, 3) := by decide +kernel
theorem dX10_read_70 : decode cX10_read 70 = .ok (.iload_n 2, 1) := by decide +kernel
theorem dX10_read_71 : decode cX10_read 71 = .ok (.ireturn, 1) := by decide +kernel
theorem dX10_read_72 : decode cX10_read 72 = .ok (.iinc 2 1, 3) := by decide +kernel
theorem dX10_read_75 : decode cX10_read 75 = .ok (.goto (-58), 3) := by decide +kernel
theorem dX10_read_78 : decode cX10_read 78 = .ok (.aload_n 0, 1) := by decide +kernel
theorem dX10_read_79 : decode cX10_read 79 = .ok (.getfield 18, 3) := by decide +kernel
theorem dX10_read_82 : decode cX10_read 82 = .ok (.ifCond .ne 7, 3) := by decide +kernel
theorem dX10_read_85 : decode cX10_read 85 = .ok (.iconst (-1), 1) := by decide +kernel
theorem dX10_read_86 : decode cX10_read 86 = .ok (.goto 10, 3) := by decide +kernel
theorem dX10_read_89 : decode cX10_read 89 = .ok (.aload_n 0, 1) := by decide +kernel
theorem dX10_read_90 : decode cX10_read 90 = .ok (.getfield 22, 3) := by decide +kernel
theorem dX10_read_93 : decode cX10_read 93 = .ok (.getfield 29, 3) := by decide +kernel
theorem dX10_read_96 : decode cX10_read 96 = .ok (.ireturn, 1) := by decide +kernel
set_option maxRecDepth 20000 in
theorem ggX10_takes_X10_takesWorkWord : GoodIn wsX10_takes wsX10_takesWorkWord := goodIn_r _ [6, 7, 8, 9, 10, 1, 11, 12, 13, 14, 15, 16, 17, 58, 59, 60, 61, 62, 63, 64, 65, 66, 67, 68] (by decide +kernel) (by decide +kernel)
set_option maxRecDepth 20000 in
theorem gX10_takes_X10_takesWorkWord : GoodIn wsX10_takes (wsV RX10 46 RX10 yX10_takesWorkWord wsX10_takesWorkWord) := goodIn_app (goodIn_of _ (by decide +kernel)) ggX10_takes_X10_takesWorkWord
set_option maxRecDepth 20000 in
theorem ggX10_takes_X10_takesAuthor : GoodIn wsX10_takes wsX10_takesAuthor := goodIn_r _ [21, 8, 10, 9, 7, 22, 23, 24, 1, 25, 26, 27, 14, 28, 29, 30, 31, 32, 16, 17, 33, 34, 35, 58, 59, 60, 61, 62, 63, 64, 65, 66, 67, 68] (by decide +kernel) (by decide +kernel)
set_option maxRecDepth 20000 in
theorem gX10_takes_X10_takesAuthor : GoodIn wsX10_takes (wsV RX10 49 RX10 yX10_takesAuthor wsX10_takesAuthor) := goodIn_app (goodIn_of _ (by decide +kernel)) ggX10_takes_X10_takesAuthor
set_option maxRecDepth 20000 in
theorem ggX10_takes_X10_takesYear : GoodIn wsX10_takes wsX10_takesYear := goodIn_r _ [39, 7, 23, 8, 40, 9, 1, 41, 42, 43, 14, 44, 29, 30, 31, 32, 16, 17, 33, 34, 35, 58, 59, 60, 67, 68, 61, 62, 63, 64, 65, 66] (by decide +kernel) (by decide +kernel)
set_option maxRecDepth 20000 in
theorem gX10_takes_X10_takesYear : GoodIn wsX10_takes (wsV RX10 52 RX10 yX10_takesYear wsX10_takesYear) := goodIn_app (goodIn_of _ (by decide +kernel)) ggX10_takes_X10_takesYear
set_option maxRecDepth 20000 in
theorem ggX10_takes_X10_takesTitle : GoodIn wsX10_takes wsX10_takesTitle := goodIn_r _ [48, 7, 8, 49, 9, 23, 1, 50, 51, 52, 14, 53, 29, 30, 31, 32, 16, 17, 33, 34, 35, 58, 59, 60, 61, 62, 63, 64, 65, 66, 67, 68] (by decide +kernel) (by decide +kernel)
set_option maxRecDepth 20000 in
theorem gX10_takes_X10_takesTitle : GoodIn wsX10_takes (wsV RX10 55 RX10 yX10_takesTitle wsX10_takesTitle) := goodIn_app (goodIn_of _ (by decide +kernel)) ggX10_takes_X10_takesTitle
set_option maxRecDepth 20000 in
theorem ggX10_takes_X10_takesSemicolon : GoodIn wsX10_takes wsX10_takesSemicolon := goodIn_r _ [57, 7, 23, 8, 9, 1, 58, 59, 60, 67, 68, 61, 62, 63, 64, 65, 66] (by decide +kernel) (by decide +kernel)
set_option maxRecDepth 20000 in
theorem gX10_takes_X10_takesSemicolon : GoodIn wsX10_takes (wsV RX10 58 RX10 yX10_takesSemicolon wsX10_takesSemicolon) := goodIn_app (goodIn_of _ (by decide +kernel)) ggX10_takes_X10_takesSemicolon
theorem dX10_takes_0 : decode cX10_takes 0 = .ok (.aload_n 0, 1) := by decide +kernel
theorem dX10_takes_1 : decode cX10_takes 1 = .ok (.getfield 18, 3) := by decide +kernel
theorem dX10_takes_4 : decode cX10_takes 4 = .ok (.tableswitch 77 0 3 #[32, 39, 46, 70], 32) := by decide +kernel
theorem dX10_takes_36 : decode cX10_takes 36 = .ok (.aload_n 0, 1) := by decide +kernel
theorem dX10_takes_37 : decode cX10_takes 37 = .ok (.iload_n 1, 1) := by decide +kernel
theorem dX10_takes_38 : decode cX10_takes 38 = .ok (.iload_n 2, 1) := by decide +kernel
theorem dX10_takes_39 : decode cX10_takes 39 = .ok (.invokevirtual 46, 3) := by decide +kernel
theorem dX10_takes_42 : decode cX10_takes 42 = .ok (.ireturn, 1) := by decide +kernel
theorem dX10_takes_43 : decode cX10_takes 43 = .ok (.aload_n 0, 1) := by decide +kernel
theorem dX10_takes_44 : decode cX10_takes 44 = .ok (.iload_n 1, 1) := by decide +kernel
theorem dX10_takes_45 : decode cX10_takes 45 = .ok (.iload_n 2, 1) := by decide +kernel
theorem dX10_takes_46 : decode cX10_takes 46 = .ok (.invokevirtual 49, 3) := by decide +kernel
theorem dX10_takes_49 : decode cX10_takes 49 = .ok (.ireturn, 1) := by decide +kernel
theorem dX10_takes_50 : decode cX10_takes 50 = .ok (.aload_n 0, 1) := by decide +kernel
theorem dX10_takes_51 : decode cX10_takes 51 = .ok (.iload_n 1, 1) := by decide +kernel
theorem dX10_takes_52 : decode cX10_takes 52 = .ok (.iload_n 2, 1) := by decide +kernel
theorem dX10_takes_53 : decode cX10_takes 53 = .ok (.invokevirtual 49, 3) := by decide +kernel
theorem dX10_takes_56 : decode cX10_takes 56 = .ok (.ifCond .ne 12, 3) := by decide +kernel
theorem dX10_takes_59 : decode cX10_takes 59 = .ok (.aload_n 0, 1) := by decide +kernel
theorem dX10_takes_60 : decode cX10_takes 60 = .ok (.iload_n 1, 1) := by decide +kernel
theorem dX10_takes_61 : decode cX10_takes 61 = .ok (.iload_n 2, 1) := by decide +kernel
theorem dX10_takes_62 : decode cX10_takes 62 = .ok (.invokevirtual 52, 3) := by decide +kernel
theorem dX10_takes_65 : decode cX10_takes 65 = .ok (.ifCond .eq 7, 3) := by decide +kernel
theorem dX10_takes_68 : decode cX10_takes 68 = .ok (.iconst 1, 1) := by decide +kernel
theorem dX10_takes_69 : decode cX10_takes 69 = .ok (.goto 4, 3) := by decide +kernel
theorem dX10_takes_72 : decode cX10_takes 72 = .ok (.iconst 0, 1) := by decide +kernel
theorem dX10_takes_73 : decode cX10_takes 73 = .ok (.ireturn, 1) := by decide +kernel
theorem dX10_takes_74 : decode cX10_takes 74 = .ok (.aload_n 0, 1) := by decide +kernel
theorem dX10_takes_75 : decode cX10_takes 75 = .ok (.iload_n 1, 1) := by decide +kernel
theorem dX10_takes_76 : decode cX10_takes 76 = .ok (.iload_n 2, 1) := by decide +kernel
theorem dX10_takes_77 : decode cX10_takes 77 = .ok (.invokevirtual 55, 3) := by decide +kernel
theorem dX10_takes_80 : decode cX10_takes 80 = .ok (.ireturn, 1) := by decide +kernel
theorem dX10_takes_81 : decode cX10_takes 81 = .ok (.aload_n 0, 1) := by decide +kernel
theorem dX10_takes_82 : decode cX10_takes 82 = .ok (.iload_n 1, 1) := by decide +kernel
theorem dX10_takes_83 : decode cX10_takes 83 = .ok (.invokevirtual 58, 3) := by decide +kernel
theorem dX10_takes_86 : decode cX10_takes 86 = .ok (.ireturn, 1) := by decide +kernel
set_option maxRecDepth 20000 in
theorem ggX10_takesWorkWord_X8_isWorkWord : GoodIn wsX10_takesWorkWord wsX8_isWorkWord := goodIn_r _ [10, 11, 12, 22, 23] (by decide +kernel) (by decide +kernel)
set_option maxRecDepth 20000 in
theorem gX10_takesWorkWord_X8_isWorkWord : GoodIn wsX10_takesWorkWord (wsV RX10 62 RX8 yX8_isWorkWord wsX8_isWorkWord) := goodIn_app (goodIn_of _ (by decide +kernel)) ggX10_takesWorkWord_X8_isWorkWord
theorem dX10_takesWorkWord_0 : decode cX10_takesWorkWord 0 = .ok (.aload_n 0, 1) := by decide +kernel
theorem dX10_takesWorkWord_1 : decode cX10_takesWorkWord 1 = .ok (.getfield 22, 3) := by decide +kernel
theorem dX10_takesWorkWord_4 : decode cX10_takesWorkWord 4 = .ok (.iload_n 1, 1) := by decide +kernel
theorem dX10_takesWorkWord_5 : decode cX10_takesWorkWord 5 = .ok (.iload_n 2, 1) := by decide +kernel
theorem dX10_takesWorkWord_6 : decode cX10_takesWorkWord 6 = .ok (.invokevirtual 62, 3) := by decide +kernel
theorem dX10_takesWorkWord_9 : decode cX10_takesWorkWord 9 = .ok (.ifCond .eq 15, 3) := by decide +kernel
theorem dX10_takesWorkWord_12 : decode cX10_takesWorkWord 12 = .ok (.aload_n 0, 1) := by decide +kernel
theorem dX10_takesWorkWord_13 : decode cX10_takesWorkWord 13 = .ok (.getfield 12, 3) := by decide +kernel
theorem dX10_takesWorkWord_16 : decode cX10_takesWorkWord 16 = .ok (.getfield 26, 3) := by decide +kernel
theorem dX10_takesWorkWord_19 : decode cX10_takesWorkWord 19 = .ok (.bipush 8, 2) := by decide +kernel
theorem dX10_takesWorkWord_21 : decode cX10_takesWorkWord 21 = .ok (.if_icmp .lt 5, 3) := by decide +kernel
theorem dX10_takesWorkWord_24 : decode cX10_takesWorkWord 24 = .ok (.iconst 0, 1) := by decide +kernel
theorem dX10_takesWorkWord_25 : decode cX10_takesWorkWord 25 = .ok (.ireturn, 1) := by decide +kernel
theorem dX10_takesWorkWord_26 : decode cX10_takesWorkWord 26 = .ok (.aload_n 0, 1) := by decide +kernel
theorem dX10_takesWorkWord_27 : decode cX10_takesWorkWord 27 = .ok (.getfield 12, 3) := by decide +kernel
theorem dX10_takesWorkWord_30 : decode cX10_takesWorkWord 30 = .ok (.getfield 65, 3) := by decide +kernel
theorem dX10_takesWorkWord_33 : decode cX10_takesWorkWord 33 = .ok (.aload_n 0, 1) := by decide +kernel
theorem dX10_takesWorkWord_34 : decode cX10_takesWorkWord 34 = .ok (.getfield 12, 3) := by decide +kernel
theorem dX10_takesWorkWord_37 : decode cX10_takesWorkWord 37 = .ok (.getfield 26, 3) := by decide +kernel
theorem dX10_takesWorkWord_40 : decode cX10_takesWorkWord 40 = .ok (.iconst 0, 1) := by decide +kernel
theorem dX10_takesWorkWord_41 : decode cX10_takesWorkWord 41 = .ok (.iastore, 1) := by decide +kernel
theorem dX10_takesWorkWord_42 : decode cX10_takesWorkWord 42 = .ok (.aload_n 0, 1) := by decide +kernel
theorem dX10_takesWorkWord_43 : decode cX10_takesWorkWord 43 = .ok (.iconst 1, 1) := by decide +kernel
theorem dX10_takesWorkWord_44 : decode cX10_takesWorkWord 44 = .ok (.putfield 18, 3) := by decide +kernel
theorem dX10_takesWorkWord_47 : decode cX10_takesWorkWord 47 = .ok (.iconst 1, 1) := by decide +kernel
theorem dX10_takesWorkWord_48 : decode cX10_takesWorkWord 48 = .ok (.ireturn, 1) := by decide +kernel
set_option maxRecDepth 20000 in
theorem ggX10_takesAuthor_X8_isAuthor : GoodIn wsX10_takesAuthor wsX8_isAuthor := goodIn_r _ [13, 14, 15, 16, 12, 17, 18, 19, 20, 21, 22, 32, 33] (by decide +kernel) (by decide +kernel)
set_option maxRecDepth 20000 in
theorem gX10_takesAuthor_X8_isAuthor : GoodIn wsX10_takesAuthor (wsV RX10 68 RX8 yX8_isAuthor wsX8_isAuthor) := goodIn_app (goodIn_of _ (by decide +kernel)) ggX10_takesAuthor_X8_isAuthor
theorem dX10_takesAuthor_0 : decode cX10_takesAuthor 0 = .ok (.aload_n 0, 1) := by decide +kernel
theorem dX10_takesAuthor_1 : decode cX10_takesAuthor 1 = .ok (.getfield 12, 3) := by decide +kernel
theorem dX10_takesAuthor_4 : decode cX10_takesAuthor 4 = .ok (.getfield 65, 3) := by decide +kernel
theorem dX10_takesAuthor_7 : decode cX10_takesAuthor 7 = .ok (.aload_n 0, 1) := by decide +kernel
theorem dX10_takesAuthor_8 : decode cX10_takesAuthor 8 = .ok (.getfield 12, 3) := by decide +kernel
theorem dX10_takesAuthor_11 : decode cX10_takesAuthor 11 = .ok (.getfield 26, 3) := by decide +kernel
theorem dX10_takesAuthor_14 : decode cX10_takesAuthor 14 = .ok (.iaload, 1) := by decide +kernel
theorem dX10_takesAuthor_15 : decode cX10_takesAuthor 15 = .ok (.istore_n 3, 1) := by decide +kernel
theorem dX10_takesAuthor_16 : decode cX10_takesAuthor 16 = .ok (.aload_n 0, 1) := by decide +kernel
theorem dX10_takesAuthor_17 : decode cX10_takesAuthor 17 = .ok (.getfield 22, 3) := by decide +kernel
theorem dX10_takesAuthor_20 : decode cX10_takesAuthor 20 = .ok (.iload_n 1, 1) := by decide +kernel
theorem dX10_takesAuthor_21 : decode cX10_takesAuthor 21 = .ok (.iload_n 2, 1) := by decide +kernel
theorem dX10_takesAuthor_22 : decode cX10_takesAuthor 22 = .ok (.invokevirtual 68, 3) := by decide +kernel
theorem dX10_takesAuthor_25 : decode cX10_takesAuthor 25 = .ok (.ifCond .eq 8, 3) := by decide +kernel
theorem dX10_takesAuthor_28 : decode cX10_takesAuthor 28 = .ok (.iload_n 3, 1) := by decide +kernel
theorem dX10_takesAuthor_29 : decode cX10_takesAuthor 29 = .ok (.iconst 4, 1) := by decide +kernel
theorem dX10_takesAuthor_30 : decode cX10_takesAuthor 30 = .ok (.if_icmp .lt 5, 3) := by decide +kernel
theorem dX10_takesAuthor_33 : decode cX10_takesAuthor 33 = .ok (.iconst 0, 1) := by decide +kernel
theorem dX10_takesAuthor_34 : decode cX10_takesAuthor 34 = .ok (.ireturn, 1) := by decide +kernel
theorem dX10_takesAuthor_35 : decode cX10_takesAuthor 35 = .ok (.aload_n 0, 1) := by decide +kernel
theorem dX10_takesAuthor_36 : decode cX10_takesAuthor 36 = .ok (.getfield 12, 3) := by decide +kernel
theorem dX10_takesAuthor_39 : decode cX10_takesAuthor 39 = .ok (.getfield 26, 3) := by decide +kernel
theorem dX10_takesAuthor_42 : decode cX10_takesAuthor 42 = .ok (.iconst 4, 1) := by decide +kernel
theorem dX10_takesAuthor_43 : decode cX10_takesAuthor 43 = .ok (.imul, 1) := by decide +kernel
theorem dX10_takesAuthor_44 : decode cX10_takesAuthor 44 = .ok (.iload_n 3, 1) := by decide +kernel
theorem dX10_takesAuthor_45 : decode cX10_takesAuthor 45 = .ok (.iadd, 1) := by decide +kernel
theorem dX10_takesAuthor_46 : decode cX10_takesAuthor 46 = .ok (.istore 4, 2) := by decide +kernel
theorem dX10_takesAuthor_48 : decode cX10_takesAuthor 48 = .ok (.aload_n 0, 1) := by decide +kernel
theorem dX10_takesAuthor_49 : decode cX10_takesAuthor 49 = .ok (.getfield 12, 3) := by decide +kernel
theorem dX10_takesAuthor_52 : decode cX10_takesAuthor 52 = .ok (.getfield 71, 3) := by decide +kernel
theorem dX10_takesAuthor_55 : decode cX10_takesAuthor 55 = .ok (.iload 4, 2) := by decide +kernel
theorem dX10_takesAuthor_57 : decode cX10_takesAuthor 57 = .ok (.aload_n 0, 1) := by decide +kernel
theorem dX10_takesAuthor_58 : decode cX10_takesAuthor 58 = .ok (.getfield 22, 3) := by decide +kernel
theorem dX10_takesAuthor_61 : decode cX10_takesAuthor 61 = .ok (.getfield 34, 3) := by decide +kernel
theorem dX10_takesAuthor_64 : decode cX10_takesAuthor 64 = .ok (.iload_n 1, 1) := by decide +kernel
theorem dX10_takesAuthor_65 : decode cX10_takesAuthor 65 = .ok (.iaload, 1) := by decide +kernel
theorem dX10_takesAuthor_66 : decode cX10_takesAuthor 66 = .ok (.iastore, 1) := by decide +kernel
theorem dX10_takesAuthor_67 : decode cX10_takesAuthor 67 = .ok (.aload_n 0, 1) := by decide +kernel
theorem dX10_takesAuthor_68 : decode cX10_takesAuthor 68 = .ok (.getfield 12, 3) := by decide +kernel
theorem dX10_takesAuthor_71 : decode cX10_takesAuthor 71 = .ok (.getfield 74, 3) := by decide +kernel
theorem dX10_takesAuthor_74 : decode cX10_takesAuthor 74 = .ok (.iload 4, 2) := by decide +kernel
theorem dX10_takesAuthor_76 : decode cX10_takesAuthor 76 = .ok (.aload_n 0, 1) := by decide +kernel
theorem dX10_takesAuthor_77 : decode cX10_takesAuthor 77 = .ok (.getfield 22, 3) := by decide +kernel
theorem dX10_takesAuthor_80 : decode cX10_takesAuthor 80 = .ok (.getfield 34, 3) := by decide +kernel
theorem dX10_takesAuthor_83 : decode cX10_takesAuthor 83 = .ok (.iload_n 1, 1) := by decide +kernel
theorem dX10_takesAuthor_84 : decode cX10_takesAuthor 84 = .ok (.iconst 1, 1) := by decide +kernel
theorem dX10_takesAuthor_85 : decode cX10_takesAuthor 85 = .ok (.iadd, 1) := by decide +kernel
theorem dX10_takesAuthor_86 : decode cX10_takesAuthor 86 = .ok (.iaload, 1) := by decide +kernel
theorem dX10_takesAuthor_87 : decode cX10_takesAuthor 87 = .ok (.iastore, 1) := by decide +kernel
theorem dX10_takesAuthor_88 : decode cX10_takesAuthor 88 = .ok (.aload_n 0, 1) := by decide +kernel
theorem dX10_takesAuthor_89 : decode cX10_takesAuthor 89 = .ok (.getfield 12, 3) := by decide +kernel
theorem dX10_takesAuthor_92 : decode cX10_takesAuthor 92 = .ok (.getfield 65, 3) := by decide +kernel
theorem dX10_takesAuthor_95 : decode cX10_takesAuthor 95 = .ok (.aload_n 0, 1) := by decide +kernel
theorem dX10_takesAuthor_96 : decode cX10_takesAuthor 96 = .ok (.getfield 12, 3) := by decide +kernel
theorem dX10_takesAuthor_99 : decode cX10_takesAuthor 99 = .ok (.getfield 26, 3) := by decide +kernel
theorem dX10_takesAuthor_102 : decode cX10_takesAuthor 102 = .ok (.iload_n 3, 1) := by decide +kernel
theorem dX10_takesAuthor_103 : decode cX10_takesAuthor 103 = .ok (.iconst 1, 1) := by decide +kernel
theorem dX10_takesAuthor_104 : decode cX10_takesAuthor 104 = .ok (.iadd, 1) := by decide +kernel
theorem dX10_takesAuthor_105 : decode cX10_takesAuthor 105 = .ok (.iastore, 1) := by decide +kernel
theorem dX10_takesAuthor_106 : decode cX10_takesAuthor 106 = .ok (.aload_n 0, 1) := by decide +kernel
theorem dX10_takesAuthor_107 : decode cX10_takesAuthor 107 = .ok (.iconst 2, 1) := by decide +kernel
theorem dX10_takesAuthor_108 : decode cX10_takesAuthor 108 = .ok (.putfield 18, 3) := by decide +kernel
theorem dX10_takesAuthor_111 : decode cX10_takesAuthor 111 = .ok (.iconst 1, 1) := by decide +kernel
theorem dX10_takesAuthor_112 : decode cX10_takesAuthor 112 = .ok (.ireturn, 1) := by decide +kernel
set_option maxRecDepth 20000 in
theorem ggX10_takesYear_X8_isYear : GoodIn wsX10_takesYear wsX8_isYear := goodIn_r _ [11, 12, 13, 14, 10, 15, 16, 17, 18, 19, 20, 24, 25] (by decide +kernel) (by decide +kernel)
set_option maxRecDepth 20000 in
theorem gX10_takesYear_X8_isYear : GoodIn wsX10_takesYear (wsV RX10 77 RX8 yX8_isYear wsX8_isYear) := goodIn_app (goodIn_of _ (by decide +kernel)) ggX10_takesYear_X8_isYear
theorem dX10_takesYear_0 : decode cX10_takesYear 0 = .ok (.aload_n 0, 1) := by decide +kernel
theorem dX10_takesYear_1 : decode cX10_takesYear 1 = .ok (.getfield 22, 3) := by decide +kernel
theorem dX10_takesYear_4 : decode cX10_takesYear 4 = .ok (.iload_n 1, 1) := by decide +kernel
theorem dX10_takesYear_5 : decode cX10_takesYear 5 = .ok (.iload_n 2, 1) := by decide +kernel
theorem dX10_takesYear_6 : decode cX10_takesYear 6 = .ok (.invokevirtual 77, 3) := by decide +kernel
theorem dX10_takesYear_9 : decode cX10_takesYear 9 = .ok (.ifCond .ne 5, 3) := by decide +kernel
theorem dX10_takesYear_12 : decode cX10_takesYear 12 = .ok (.iconst 0, 1) := by decide +kernel
theorem dX10_takesYear_13 : decode cX10_takesYear 13 = .ok (.ireturn, 1) := by decide +kernel
theorem dX10_takesYear_14 : decode cX10_takesYear 14 = .ok (.aload_n 0, 1) := by decide +kernel
theorem dX10_takesYear_15 : decode cX10_takesYear 15 = .ok (.getfield 22, 3) := by decide +kernel
theorem dX10_takesYear_18 : decode cX10_takesYear 18 = .ok (.getfield 34, 3) := by decide +kernel
theorem dX10_takesYear_21 : decode cX10_takesYear 21 = .ok (.iload_n 1, 1) := by decide +kernel
theorem dX10_takesYear_22 : decode cX10_takesYear 22 = .ok (.iaload, 1) := by decide +kernel
theorem dX10_takesYear_23 : decode cX10_takesYear 23 = .ok (.bipush 48, 2) := by decide +kernel
theorem dX10_takesYear_25 : decode cX10_takesYear 25 = .ok (.isub, 1) := by decide +kernel
theorem dX10_takesYear_26 : decode cX10_takesYear 26 = .ok (.istore_n 3, 1) := by decide +kernel
theorem dX10_takesYear_27 : decode cX10_takesYear 27 = .ok (.aload_n 0, 1) := by decide +kernel
theorem dX10_takesYear_28 : decode cX10_takesYear 28 = .ok (.getfield 12, 3) := by decide +kernel
theorem dX10_takesYear_31 : decode cX10_takesYear 31 = .ok (.getfield 80, 3) := by decide +kernel
theorem dX10_takesYear_34 : decode cX10_takesYear 34 = .ok (.aload_n 0, 1) := by decide +kernel
theorem dX10_takesYear_35 : decode cX10_takesYear 35 = .ok (.getfield 12, 3) := by decide +kernel
theorem dX10_takesYear_38 : decode cX10_takesYear 38 = .ok (.getfield 26, 3) := by decide +kernel
theorem dX10_takesYear_41 : decode cX10_takesYear 41 = .ok (.bipush 10, 2) := by decide +kernel
theorem dX10_takesYear_43 : decode cX10_takesYear 43 = .ok (.iload_n 3, 1) := by decide +kernel
theorem dX10_takesYear_44 : decode cX10_takesYear 44 = .ok (.imul, 1) := by decide +kernel
theorem dX10_takesYear_45 : decode cX10_takesYear 45 = .ok (.aload_n 0, 1) := by decide +kernel
theorem dX10_takesYear_46 : decode cX10_takesYear 46 = .ok (.getfield 22, 3) := by decide +kernel
theorem dX10_takesYear_49 : decode cX10_takesYear 49 = .ok (.getfield 34, 3) := by decide +kernel
theorem dX10_takesYear_52 : decode cX10_takesYear 52 = .ok (.iload_n 1, 1) := by decide +kernel
theorem dX10_takesYear_53 : decode cX10_takesYear 53 = .ok (.iconst 1, 1) := by decide +kernel
theorem dX10_takesYear_54 : decode cX10_takesYear 54 = .ok (.iadd, 1) := by decide +kernel
theorem dX10_takesYear_55 : decode cX10_takesYear 55 = .ok (.iaload, 1) := by decide +kernel
theorem dX10_takesYear_56 : decode cX10_takesYear 56 = .ok (.iadd, 1) := by decide +kernel
theorem dX10_takesYear_57 : decode cX10_takesYear 57 = .ok (.bipush 48, 2) := by decide +kernel
theorem dX10_takesYear_59 : decode cX10_takesYear 59 = .ok (.isub, 1) := by decide +kernel
theorem dX10_takesYear_60 : decode cX10_takesYear 60 = .ok (.iastore, 1) := by decide +kernel
theorem dX10_takesYear_61 : decode cX10_takesYear 61 = .ok (.aload_n 0, 1) := by decide +kernel
theorem dX10_takesYear_62 : decode cX10_takesYear 62 = .ok (.iconst 3, 1) := by decide +kernel
theorem dX10_takesYear_63 : decode cX10_takesYear 63 = .ok (.putfield 18, 3) := by decide +kernel
theorem dX10_takesYear_66 : decode cX10_takesYear 66 = .ok (.iconst 1, 1) := by decide +kernel
theorem dX10_takesYear_67 : decode cX10_takesYear 67 = .ok (.ireturn, 1) := by decide +kernel
set_option maxRecDepth 20000 in
theorem ggX10_takesTitle_X8_isTitle : GoodIn wsX10_takesTitle wsX8_isTitle := goodIn_r _ [11, 12, 13, 14, 10, 15, 16, 17, 18, 19, 20, 30, 31] (by decide +kernel) (by decide +kernel)
set_option maxRecDepth 20000 in
theorem gX10_takesTitle_X8_isTitle : GoodIn wsX10_takesTitle (wsV RX10 83 RX8 yX8_isTitle wsX8_isTitle) := goodIn_app (goodIn_of _ (by decide +kernel)) ggX10_takesTitle_X8_isTitle
theorem dX10_takesTitle_0 : decode cX10_takesTitle 0 = .ok (.aload_n 0, 1) := by decide +kernel
theorem dX10_takesTitle_1 : decode cX10_takesTitle 1 = .ok (.getfield 22, 3) := by decide +kernel
theorem dX10_takesTitle_4 : decode cX10_takesTitle 4 = .ok (.iload_n 1, 1) := by decide +kernel
theorem dX10_takesTitle_5 : decode cX10_takesTitle 5 = .ok (.iload_n 2, 1) := by decide +kernel
theorem dX10_takesTitle_6 : decode cX10_takesTitle 6 = .ok (.invokevirtual 83, 3) := by decide +kernel
theorem dX10_takesTitle_9 : decode cX10_takesTitle 9 = .ok (.ifCond .ne 5, 3) := by decide +kernel
theorem dX10_takesTitle_12 : decode cX10_takesTitle 12 = .ok (.iconst 0, 1) := by decide +kernel
theorem dX10_takesTitle_13 : decode cX10_takesTitle 13 = .ok (.ireturn, 1) := by decide +kernel
theorem dX10_takesTitle_14 : decode cX10_takesTitle 14 = .ok (.aload_n 0, 1) := by decide +kernel
theorem dX10_takesTitle_15 : decode cX10_takesTitle 15 = .ok (.getfield 12, 3) := by decide +kernel
theorem dX10_takesTitle_18 : decode cX10_takesTitle 18 = .ok (.getfield 86, 3) := by decide +kernel
theorem dX10_takesTitle_21 : decode cX10_takesTitle 21 = .ok (.aload_n 0, 1) := by decide +kernel
theorem dX10_takesTitle_22 : decode cX10_takesTitle 22 = .ok (.getfield 12, 3) := by decide +kernel
theorem dX10_takesTitle_25 : decode cX10_takesTitle 25 = .ok (.getfield 26, 3) := by decide +kernel
theorem dX10_takesTitle_28 : decode cX10_takesTitle 28 = .ok (.aload_n 0, 1) := by decide +kernel
theorem dX10_takesTitle_29 : decode cX10_takesTitle 29 = .ok (.getfield 22, 3) := by decide +kernel
theorem dX10_takesTitle_32 : decode cX10_takesTitle 32 = .ok (.getfield 34, 3) := by decide +kernel
theorem dX10_takesTitle_35 : decode cX10_takesTitle 35 = .ok (.iload_n 1, 1) := by decide +kernel
theorem dX10_takesTitle_36 : decode cX10_takesTitle 36 = .ok (.iaload, 1) := by decide +kernel
theorem dX10_takesTitle_37 : decode cX10_takesTitle 37 = .ok (.iastore, 1) := by decide +kernel
theorem dX10_takesTitle_38 : decode cX10_takesTitle 38 = .ok (.aload_n 0, 1) := by decide +kernel
theorem dX10_takesTitle_39 : decode cX10_takesTitle 39 = .ok (.iconst 4, 1) := by decide +kernel
theorem dX10_takesTitle_40 : decode cX10_takesTitle 40 = .ok (.putfield 18, 3) := by decide +kernel
theorem dX10_takesTitle_43 : decode cX10_takesTitle 43 = .ok (.iconst 1, 1) := by decide +kernel
theorem dX10_takesTitle_44 : decode cX10_takesTitle 44 = .ok (.ireturn, 1) := by decide +kernel
theorem dX10_takesSemicolon_0 : decode cX10_takesSemicolon 0 = .ok (.aload_n 0, 1) := by decide +kernel
theorem dX10_takesSemicolon_1 : decode cX10_takesSemicolon 1 = .ok (.getfield 22, 3) := by decide +kernel
theorem dX10_takesSemicolon_4 : decode cX10_takesSemicolon 4 = .ok (.getfield 34, 3) := by decide +kernel
theorem dX10_takesSemicolon_7 : decode cX10_takesSemicolon 7 = .ok (.iload_n 1, 1) := by decide +kernel
theorem dX10_takesSemicolon_8 : decode cX10_takesSemicolon 8 = .ok (.iaload, 1) := by decide +kernel
theorem dX10_takesSemicolon_9 : decode cX10_takesSemicolon 9 = .ok (.bipush 59, 2) := by decide +kernel
theorem dX10_takesSemicolon_11 : decode cX10_takesSemicolon 11 = .ok (.if_icmp .eq 5, 3) := by decide +kernel
theorem dX10_takesSemicolon_14 : decode cX10_takesSemicolon 14 = .ok (.iconst 0, 1) := by decide +kernel
theorem dX10_takesSemicolon_15 : decode cX10_takesSemicolon 15 = .ok (.ireturn, 1) := by decide +kernel
theorem dX10_takesSemicolon_16 : decode cX10_takesSemicolon 16 = .ok (.aload_n 0, 1) := by decide +kernel
theorem dX10_takesSemicolon_17 : decode cX10_takesSemicolon 17 = .ok (.getfield 12, 3) := by decide +kernel
theorem dX10_takesSemicolon_20 : decode cX10_takesSemicolon 20 = .ok (.dup, 1) := by decide +kernel
theorem dX10_takesSemicolon_21 : decode cX10_takesSemicolon 21 = .ok (.getfield 26, 3) := by decide +kernel
theorem dX10_takesSemicolon_24 : decode cX10_takesSemicolon 24 = .ok (.iconst 1, 1) := by decide +kernel
theorem dX10_takesSemicolon_25 : decode cX10_takesSemicolon 25 = .ok (.iadd, 1) := by decide +kernel
theorem dX10_takesSemicolon_26 : decode cX10_takesSemicolon 26 = .ok (.putfield 26, 3) := by decide +kernel
theorem dX10_takesSemicolon_29 : decode cX10_takesSemicolon 29 = .ok (.aload_n 0, 1) := by decide +kernel
theorem dX10_takesSemicolon_30 : decode cX10_takesSemicolon 30 = .ok (.iconst 0, 1) := by decide +kernel
theorem dX10_takesSemicolon_31 : decode cX10_takesSemicolon 31 = .ok (.putfield 18, 3) := by decide +kernel
theorem dX10_takesSemicolon_34 : decode cX10_takesSemicolon 34 = .ok (.iconst 1, 1) := by decide +kernel
theorem dX10_takesSemicolon_35 : decode cX10_takesSemicolon 35 = .ok (.ireturn, 1) := by decide +kernel
set_option maxRecDepth 20000 in
theorem ggX11_init_X8_init : GoodIn wsX11_init wsX8_init := goodIn_r _ [43, 44, 2, 3, 45, 46, 47, 161, 162] (by decide +kernel) (by decide +kernel)
set_option maxRecDepth 20000 in
theorem gX11_init_X8_init_n9 : GoodIn wsX11_init (wsX8_init) := ggX11_init_X8_init
set_option maxRecDepth 20000 in
theorem ggX11_init_X10_init : GoodIn wsX11_init wsX10_init := goodIn_r _ [50, 51, 2, 3, 52, 53, 54, 55, 56, 57, 58, 59, 60, 61, 45, 62, 63, 64, 65, 66, 212, 213, 214, 215, 216, 217, 174, 175, 176] (by decide +kernel) (by decide +kernel)
set_option maxRecDepth 20000 in
theorem gX11_init_X10_init : GoodIn wsX11_init (wsX10_init) := ggX11_init_X10_init
set_option maxRecDepth 20000 in
theorem ggX11_init_X4_init : GoodIn wsX11_init wsX4_init := goodIn_r _ [69, 70, 2, 3, 71, 72, 73, 74, 75, 177, 178, 179, 180, 181] (by decide +kernel) (by decide +kernel)
set_option maxRecDepth 20000 in
theorem gX11_init_X4_init : GoodIn wsX11_init (wsX4_init) := ggX11_init_X4_init
set_option maxRecDepth 20000 in
theorem ggX11_init_X7_init : GoodIn wsX11_init wsX7_init := goodIn_r _ [77, 78, 2, 3, 79, 53, 54, 80, 81, 82, 83, 84, 85, 86, 87, 88, 58, 59, 60, 61, 45, 62, 63, 64, 65, 66, 89, 90, 91, 92, 93, 94, 95, 96, 97, 98, 99, 100, 101, 102, 103, 104, 105, 106, 212, 213, 214, 215, 216, 217, 182, 183, 184, 218, 219, 220, 221, 222, 223, 224, 225, 226, 227, 228, 229] (by decide +kernel) (by decide +kernel)
set_option maxRecDepth 20000 in
theorem gX11_init_X7_init_n34 : GoodIn wsX11_init (wsX7_init) := ggX11_init_X7_init
set_option maxRecDepth 20000 in
theorem ggX11_init_X2_init : GoodIn wsX11_init wsX2_init := goodIn_r _ [109, 110, 2, 3, 111, 112, 113, 114, 115, 17, 18, 76, 77, 78, 79, 53, 54, 80, 81, 82, 83, 84, 85, 86, 87, 88, 58, 59, 60, 61, 45, 62, 63, 64, 65, 66, 89, 90, 91, 92, 93, 94, 95, 96, 97, 98, 99, 100, 101, 102, 103, 104, 105, 106, 185, 186, 187, 188, 182, 183, 184, 212, 213, 214, 215, 216, 217, 218, 219, 220, 221, 222, 223, 224, 225, 226, 227, 228, 229] (by decide +kernel) (by decide +kernel)
set_option maxRecDepth 20000 in
theorem gX11_init_X2_init : GoodIn wsX11_init (wsX2_init) := ggX11_init_X2_init
set_option maxRecDepth 20000 in
theorem ggX11_init_X0_init : GoodIn wsX11_init wsX0_init := goodIn_r _ [118, 119, 2, 3, 45, 120, 121, 122, 123, 124, 125, 126, 127, 128, 189, 190, 191, 192, 193, 194, 182, 183, 184] (by decide +kernel) (by decide +kernel)
set_option maxRecDepth 20000 in
theorem gX11_init_X0_init : GoodIn wsX11_init (wsX0_init) := ggX11_init_X0_init
set_option maxRecDepth 20000 in
theorem ggX11_init_X3_init : GoodIn wsX11_init wsX3_init := goodIn_r _ [131, 132, 2, 3, 45, 133, 134, 135, 136, 137, 138, 139, 140, 141, 142, 143, 144, 195, 196, 197, 198, 199, 200, 201, 202, 182, 183, 184] (by decide +kernel) (by decide +kernel)
set_option maxRecDepth 20000 in
theorem gX11_init_X3_init : GoodIn wsX11_init (wsX3_init) := ggX11_init_X3_init
set_option maxRecDepth 20000 in
theorem ggX11_init_X5_init : GoodIn wsX11_init wsX5_init := goodIn_r _ [147, 148, 2, 3, 149, 45, 150, 151, 152, 153, 154, 155, 156, 157, 158, 159, 160, 203, 204, 205, 206, 207, 208, 209, 210, 211, 182, 183, 184] (by decide +kernel) (by decide +kernel)
set_option maxRecDepth 20000 in
theorem gX11_init_X5_init : GoodIn wsX11_init (wsX5_init) := ggX11_init_X5_init
theorem dX11_init_0 : decode cX11_init 0 = .ok (.aload_n 0, 1) := by decide +kernel
theorem dX11_init_1 : decode cX11_init 1 = .ok (.invokespecial 1, 3) := by decide +kernel
theorem dX11_init_4 : decode cX11_init 4 = .ok (.aload_n 0, 1) := by decide +kernel
theorem dX11_init_5 : decode cX11_init 5 = .ok (.new 7, 3) := by decide +kernel
theorem dX11_init_8 : decode cX11_init 8 = .ok (.dup, 1) := by decide +kernel
theorem dX11_init_9 : decode cX11_init 9 = .ok (.invokespecial 9, 3) := by decide +kernel
theorem dX11_init_12 : decode cX11_init 12 = .ok (.putfield 10, 3) := by decide +kernel
theorem dX11_init_15 : decode cX11_init 15 = .ok (.aload_n 0, 1) := by decide +kernel
theorem dX11_init_16 : decode cX11_init 16 = .ok (.new 16, 3) := by decide +kernel
theorem dX11_init_19 : decode cX11_init 19 = .ok (.dup, 1) := by decide +kernel
theorem dX11_init_20 : decode cX11_init 20 = .ok (.aload_n 0, 1) := by decide +kernel
theorem dX11_init_21 : decode cX11_init 21 = .ok (.getfield 10, 3) := by decide +kernel
theorem dX11_init_24 : decode cX11_init 24 = .ok (.invokespecial 18, 3) := by decide +kernel
theorem dX11_init_27 : decode cX11_init 27 = .ok (.putfield 21, 3) := by decide +kernel
theorem dX11_init_30 : decode cX11_init 30 = .ok (.aload_n 0, 1) := by decide +kernel
theorem dX11_init_31 : decode cX11_init 31 = .ok (.new 25, 3) := by decide +kernel
theorem dX11_init_34 : decode cX11_init 34 = .ok (.dup, 1) := by decide +kernel
theorem dX11_init_35 : decode cX11_init 35 = .ok (.aload_n 0, 1) := by decide +kernel
theorem dX11_init_36 : decode cX11_init 36 = .ok (.getfield 10, 3) := by decide +kernel
theorem dX11_init_39 : decode cX11_init 39 = .ok (.invokespecial 27, 3) := by decide +kernel
theorem dX11_init_42 : decode cX11_init 42 = .ok (.putfield 28, 3) := by decide +kernel
theorem dX11_init_45 : decode cX11_init 45 = .ok (.aload_n 0, 1) := by decide +kernel
theorem dX11_init_46 : decode cX11_init 46 = .ok (.new 32, 3) := by decide +kernel
theorem dX11_init_49 : decode cX11_init 49 = .ok (.dup, 1) := by decide +kernel
theorem dX11_init_50 : decode cX11_init 50 = .ok (.invokespecial 34, 3) := by decide +kernel
theorem dX11_init_53 : decode cX11_init 53 = .ok (.putfield 35, 3) := by decide +kernel
theorem dX11_init_56 : decode cX11_init 56 = .ok (.aload_n 0, 1) := by decide +kernel
theorem dX11_init_57 : decode cX11_init 57 = .ok (.aload_n 0, 1) := by decide +kernel
theorem dX11_init_58 : decode cX11_init 58 = .ok (.getfield 35, 3) := by decide +kernel
theorem dX11_init_61 : decode cX11_init 61 = .ok (.getfield 39, 3) := by decide +kernel
theorem dX11_init_64 : decode cX11_init 64 = .ok (.putfield 43, 3) := by decide +kernel
theorem dX11_init_67 : decode cX11_init 67 = .ok (.aload_n 0, 1) := by decide +kernel
theorem dX11_init_68 : decode cX11_init 68 = .ok (.aload_n 0, 1) := by decide +kernel
theorem dX11_init_69 : decode cX11_init 69 = .ok (.getfield 35, 3) := by decide +kernel
theorem dX11_init_72 : decode cX11_init 72 = .ok (.getfield 44, 3) := by decide +kernel
theorem dX11_init_75 : decode cX11_init 75 = .ok (.putfield 48, 3) := by decide +kernel
theorem dX11_init_78 : decode cX11_init 78 = .ok (.aload_n 0, 1) := by decide +kernel
theorem dX11_init_79 : decode cX11_init 79 = .ok (.aload_n 0, 1) := by decide +kernel
theorem dX11_init_80 : decode cX11_init 80 = .ok (.getfield 35, 3) := by decide +kernel
theorem dX11_init_83 : decode cX11_init 83 = .ok (.getfield 49, 3) := by decide +kernel
theorem dX11_init_86 : decode cX11_init 86 = .ok (.putfield 53, 3) := by decide +kernel
theorem dX11_init_89 : decode cX11_init 89 = .ok (.aload_n 0, 1) := by decide +kernel
theorem dX11_init_90 : decode cX11_init 90 = .ok (.new 54, 3) := by decide +kernel
theorem dX11_init_93 : decode cX11_init 93 = .ok (.dup, 1) := by decide +kernel
theorem dX11_init_94 : decode cX11_init 94 = .ok (.aload_n 0, 1) := by decide +kernel
theorem dX11_init_95 : decode cX11_init 95 = .ok (.getfield 35, 3) := by decide +kernel
theorem dX11_init_98 : decode cX11_init 98 = .ok (.invokespecial 56, 3) := by decide +kernel
theorem dX11_init_101 : decode cX11_init 101 = .ok (.putfield 59, 3) := by decide +kernel
theorem dX11_init_104 : decode cX11_init 104 = .ok (.aload_n 0, 1) := by decide +kernel
theorem dX11_init_105 : decode cX11_init 105 = .ok (.new 63, 3) := by decide +kernel
theorem dX11_init_108 : decode cX11_init 108 = .ok (.dup, 1) := by decide +kernel
theorem dX11_init_109 : decode cX11_init 109 = .ok (.aload_n 0, 1) := by decide +kernel
theorem dX11_init_110 : decode cX11_init 110 = .ok (.getfield 35, 3) := by decide +kernel
theorem dX11_init_113 : decode cX11_init 113 = .ok (.invokespecial 65, 3) := by decide +kernel
theorem dX11_init_116 : decode cX11_init 116 = .ok (.putfield 66, 3) := by decide +kernel
theorem dX11_init_119 : decode cX11_init 119 = .ok (.aload_n 0, 1) := by decide +kernel
theorem dX11_init_120 : decode cX11_init 120 = .ok (.new 70, 3) := by decide +kernel
theorem dX11_init_123 : decode cX11_init 123 = .ok (.dup, 1) := by decide +kernel
theorem dX11_init_124 : decode cX11_init 124 = .ok (.aload_n 0, 1) := by decide +kernel
theorem dX11_init_125 : decode cX11_init 125 = .ok (.getfield 35, 3) := by decide +kernel
theorem dX11_init_128 : decode cX11_init 128 = .ok (.aload_n 0, 1) := by decide +kernel
theorem dX11_init_129 : decode cX11_init 129 = .ok (.getfield 66, 3) := by decide +kernel
theorem dX11_init_132 : decode cX11_init 132 = .ok (.invokespecial 72, 3) := by decide +kernel
theorem dX11_init_135 : decode cX11_init 135 = .ok (.putfield 75, 3) := by decide +kernel
theorem dX11_init_138 : decode cX11_init 138 = .ok (.aload_n 0, 1) := by decide +kernel
theorem dX11_init_139 : decode cX11_init 139 = .ok (.new 79, 3) := by decide +kernel
theorem dX11_init_142 : decode cX11_init 142 = .ok (.dup, 1) := by decide +kernel
theorem dX11_init_143 : decode cX11_init 143 = .ok (.aload_n 0, 1) := by decide +kernel
theorem dX11_init_144 : decode cX11_init 144 = .ok (.getfield 35, 3) := by decide +kernel
theorem dX11_init_147 : decode cX11_init 147 = .ok (.aload_n 0, 1) := by decide +kernel
theorem dX11_init_148 : decode cX11_init 148 = .ok (.getfield 66, 3) := by decide +kernel
theorem dX11_init_151 : decode cX11_init 151 = .ok (.aload_n 0, 1) := by decide +kernel
theorem dX11_init_152 : decode cX11_init 152 = .ok (.getfield 75, 3) := by decide +kernel
theorem dX11_init_155 : decode cX11_init 155 = .ok (.invokespecial 81, 3) := by decide +kernel
theorem dX11_init_158 : decode cX11_init 158 = .ok (.putfield 84, 3) := by decide +kernel
theorem dX11_init_161 : decode cX11_init 161 = .ok (.return_, 1) := by decide +kernel
set_option maxRecDepth 20000 in
theorem ggX11_appendCharacter_X11_inRange : GoodIn wsX11_appendCharacter wsX11_inRange := goodIn_r _ [6] (by decide +kernel) (by decide +kernel)
set_option maxRecDepth 20000 in
theorem gX11_appendCharacter_X11_inRange : GoodIn wsX11_appendCharacter (va_wsS RX11 88 yX11_inRange wsX11_inRange) := goodIn_app (goodIn_of _ (by decide +kernel)) ggX11_appendCharacter_X11_inRange
set_option maxRecDepth 20000 in
theorem ggX11_appendCharacter_X8_append : GoodIn wsX11_appendCharacter wsX8_append := goodIn_r _ [11, 12, 13, 25, 26] (by decide +kernel) (by decide +kernel)
set_option maxRecDepth 20000 in
theorem gX11_appendCharacter_X8_append : GoodIn wsX11_appendCharacter (wsV RX11 96 RX8 yX8_append wsX8_append) := goodIn_app (goodIn_of _ (by decide +kernel)) ggX11_appendCharacter_X8_append
theorem dX11_appendCharacter_0 : decode cX11_appendCharacter 0 = .ok (.iload_n 1, 1) := by decide +kernel
theorem dX11_appendCharacter_1 : decode cX11_appendCharacter 1 = .ok (.iconst 0, 1) := by decide +kernel
theorem dX11_appendCharacter_2 : decode cX11_appendCharacter 2 = .ok (.sipush 255, 3) := by decide +kernel
theorem dX11_appendCharacter_5 : decode cX11_appendCharacter 5 = .ok (.invokestatic 88, 3) := by decide +kernel
theorem dX11_appendCharacter_8 : decode cX11_appendCharacter 8 = .ok (.ifCond .ne 5, 3) := by decide +kernel
theorem dX11_appendCharacter_11 : decode cX11_appendCharacter 11 = .ok (.iconst (-1), 1) := by decide +kernel
theorem dX11_appendCharacter_12 : decode cX11_appendCharacter 12 = .ok (.ireturn, 1) := by decide +kernel
theorem dX11_appendCharacter_13 : decode cX11_appendCharacter 13 = .ok (.aload_n 0, 1) := by decide +kernel
theorem dX11_appendCharacter_14 : decode cX11_appendCharacter 14 = .ok (.getfield 10, 3) := by decide +kernel
theorem dX11_appendCharacter_17 : decode cX11_appendCharacter 17 = .ok (.getfield 92, 3) := by decide +kernel
theorem dX11_appendCharacter_20 : decode cX11_appendCharacter 20 = .ok (.sipush 150, 3) := by decide +kernel
theorem dX11_appendCharacter_23 : decode cX11_appendCharacter 23 = .ok (.if_icmp .lt 6, 3) := by decide +kernel
theorem dX11_appendCharacter_26 : decode cX11_appendCharacter 26 = .ok (.bipush (-3), 2) := by decide +kernel
theorem dX11_appendCharacter_28 : decode cX11_appendCharacter 28 = .ok (.ireturn, 1) := by decide +kernel
theorem dX11_appendCharacter_29 : decode cX11_appendCharacter 29 = .ok (.aload_n 0, 1) := by decide +kernel
theorem dX11_appendCharacter_30 : decode cX11_appendCharacter 30 = .ok (.getfield 10, 3) := by decide +kernel
theorem dX11_appendCharacter_33 : decode cX11_appendCharacter 33 = .ok (.iload_n 1, 1) := by decide +kernel
theorem dX11_appendCharacter_34 : decode cX11_appendCharacter 34 = .ok (.invokevirtual 96, 3) := by decide +kernel
theorem dX11_appendCharacter_37 : decode cX11_appendCharacter 37 = .ok (.aload_n 0, 1) := by decide +kernel
theorem dX11_appendCharacter_38 : decode cX11_appendCharacter 38 = .ok (.getfield 10, 3) := by decide +kernel
theorem dX11_appendCharacter_41 : decode cX11_appendCharacter 41 = .ok (.getfield 92, 3) := by decide +kernel
theorem dX11_appendCharacter_44 : decode cX11_appendCharacter 44 = .ok (.ireturn, 1) := by decide +kernel
theorem dX11_clearText_0 : decode cX11_clearText 0 = .ok (.aload_n 0, 1) := by decide +kernel
theorem dX11_clearText_1 : decode cX11_clearText 1 = .ok (.getfield 10, 3) := by decide +kernel
theorem dX11_clearText_4 : decode cX11_clearText 4 = .ok (.getfield 92, 3) := by decide +kernel
theorem dX11_clearText_7 : decode cX11_clearText 7 = .ok (.istore_n 1, 1) := by decide +kernel
theorem dX11_clearText_8 : decode cX11_clearText 8 = .ok (.aload_n 0, 1) := by decide +kernel
theorem dX11_clearText_9 : decode cX11_clearText 9 = .ok (.getfield 10, 3) := by decide +kernel
theorem dX11_clearText_12 : decode cX11_clearText 12 = .ok (.iconst 0, 1) := by decide +kernel
theorem dX11_clearText_13 : decode cX11_clearText 13 = .ok (.putfield 92, 3) := by decide +kernel
theorem dX11_clearText_16 : decode cX11_clearText 16 = .ok (.iload_n 1, 1) := by decide +kernel
theorem dX11_clearText_17 : decode cX11_clearText 17 = .ok (.ireturn, 1) := by decide +kernel
set_option maxRecDepth 20000 in
theorem ggX11_loadWorks_X10_read : GoodIn wsX11_loadWorks wsX10_read := goodIn_r _ [14, 15, 16, 17, 18, 19, 20, 21, 22, 23, 24, 25, 26, 27, 28, 29, 30, 31, 32, 33, 34, 35, 36, 37, 13, 38, 39, 40, 41, 42, 43, 44, 45, 46, 47, 48, 49, 50, 51, 52, 53, 54, 55, 56, 57, 58, 59, 60, 61, 62, 63, 64, 65, 66, 67, 68, 69, 70, 71, 72, 73, 74, 75, 76, 77, 78, 79, 154, 155, 156, 162, 163, 164, 165, 166, 167, 160, 161] (by decide +kernel) (by decide +kernel)
set_option maxRecDepth 20000 in
theorem gX11_loadWorks_X10_read : GoodIn wsX11_loadWorks (wsV RX11 100 RX10 yX10_read wsX10_read) := goodIn_app (goodIn_of _ (by decide +kernel)) ggX11_loadWorks_X10_read
set_option maxRecDepth 20000 in
theorem ggX11_loadWorks_X2_save : GoodIn wsX11_loadWorks wsX2_save := goodIn_r _ [84, 85, 86, 87, 88, 89, 90, 91, 92, 93, 94, 95, 96, 97, 98, 99, 100, 101, 102, 103, 104, 105, 106, 107, 108, 109, 110, 111, 112, 113, 114, 115, 116, 117, 118, 119, 120, 121, 122, 123, 124, 125, 126, 127, 128, 129, 130, 131, 132, 133, 134, 135, 136, 137, 138, 139, 140, 141, 168, 169, 170, 171, 172, 173, 174, 162, 163, 164, 165, 166, 167, 175, 176, 177, 178, 179, 180, 181, 182, 183, 157, 158, 159] (by decide +kernel) (by decide +kernel)
set_option maxRecDepth 20000 in
theorem gX11_loadWorks_X2_save : GoodIn wsX11_loadWorks (wsV RX11 104 RX2 yX2_save wsX2_save) := goodIn_app (goodIn_of _ (by decide +kernel)) ggX11_loadWorks_X2_save
set_option maxRecDepth 20000 in
theorem ggX11_loadWorks_X9_copyFrom : GoodIn wsX11_loadWorks wsX9_copyFrom := goodIn_r _ [105, 106, 107, 108, 109, 104, 110, 111, 112, 113, 114, 115, 162, 163, 164, 165, 166, 167] (by decide +kernel) (by decide +kernel)
set_option maxRecDepth 20000 in
theorem gX11_loadWorks_X9_copyFrom : GoodIn wsX11_loadWorks (wsV RX11 110 RX9 yX9_copyFrom wsX9_copyFrom) := goodIn_app (goodIn_of _ (by decide +kernel)) ggX11_loadWorks_X9_copyFrom
theorem dX11_loadWorks_0 : decode cX11_loadWorks 0 = .ok (.aload_n 0, 1) := by decide +kernel
theorem dX11_loadWorks_1 : decode cX11_loadWorks 1 = .ok (.getfield 21, 3) := by decide +kernel
theorem dX11_loadWorks_4 : decode cX11_loadWorks 4 = .ok (.invokevirtual 100, 3) := by decide +kernel
theorem dX11_loadWorks_7 : decode cX11_loadWorks 7 = .ok (.istore_n 1, 1) := by decide +kernel
theorem dX11_loadWorks_8 : decode cX11_loadWorks 8 = .ok (.iload_n 1, 1) := by decide +kernel
theorem dX11_loadWorks_9 : decode cX11_loadWorks 9 = .ok (.iconst (-1), 1) := by decide +kernel
theorem dX11_loadWorks_10 : decode cX11_loadWorks 10 = .ok (.if_icmp .eq 8, 3) := by decide +kernel
theorem dX11_loadWorks_13 : decode cX11_loadWorks 13 = .ok (.bipush (-10), 2) := by decide +kernel
theorem dX11_loadWorks_15 : decode cX11_loadWorks 15 = .ok (.iload_n 1, 1) := by decide +kernel
theorem dX11_loadWorks_16 : decode cX11_loadWorks 16 = .ok (.isub, 1) := by decide +kernel
theorem dX11_loadWorks_17 : decode cX11_loadWorks 17 = .ok (.ireturn, 1) := by decide +kernel
theorem dX11_loadWorks_18 : decode cX11_loadWorks 18 = .ok (.aload_n 0, 1) := by decide +kernel
theorem dX11_loadWorks_19 : decode cX11_loadWorks 19 = .ok (.getfield 59, 3) := by decide +kernel
theorem dX11_loadWorks_22 : decode cX11_loadWorks 22 = .ok (.invokevirtual 104, 3) := by decide +kernel
theorem dX11_loadWorks_25 : decode cX11_loadWorks 25 = .ok (.aload_n 0, 1) := by decide +kernel
theorem dX11_loadWorks_26 : decode cX11_loadWorks 26 = .ok (.getfield 43, 3) := by decide +kernel
theorem dX11_loadWorks_29 : decode cX11_loadWorks 29 = .ok (.aload_n 0, 1) := by decide +kernel
theorem dX11_loadWorks_30 : decode cX11_loadWorks 30 = .ok (.getfield 21, 3) := by decide +kernel
theorem dX11_loadWorks_33 : decode cX11_loadWorks 33 = .ok (.getfield 107, 3) := by decide +kernel
theorem dX11_loadWorks_36 : decode cX11_loadWorks 36 = .ok (.invokevirtual 110, 3) := by decide +kernel
theorem dX11_loadWorks_39 : decode cX11_loadWorks 39 = .ok (.aload_n 0, 1) := by decide +kernel
theorem dX11_loadWorks_40 : decode cX11_loadWorks 40 = .ok (.getfield 53, 3) := by decide +kernel
theorem dX11_loadWorks_43 : decode cX11_loadWorks 43 = .ok (.iconst 0, 1) := by decide +kernel
theorem dX11_loadWorks_44 : decode cX11_loadWorks 44 = .ok (.putfield 116, 3) := by decide +kernel
theorem dX11_loadWorks_47 : decode cX11_loadWorks 47 = .ok (.aload_n 0, 1) := by decide +kernel
theorem dX11_loadWorks_48 : decode cX11_loadWorks 48 = .ok (.getfield 10, 3) := by decide +kernel
theorem dX11_loadWorks_51 : decode cX11_loadWorks 51 = .ok (.iconst 0, 1) := by decide +kernel
theorem dX11_loadWorks_52 : decode cX11_loadWorks 52 = .ok (.putfield 92, 3) := by decide +kernel
theorem dX11_loadWorks_55 : decode cX11_loadWorks 55 = .ok (.aload_n 0, 1) := by decide +kernel
theorem dX11_loadWorks_56 : decode cX11_loadWorks 56 = .ok (.getfield 43, 3) := by decide +kernel
theorem dX11_loadWorks_59 : decode cX11_loadWorks 59 = .ok (.getfield 121, 3) := by decide +kernel
theorem dX11_loadWorks_62 : decode cX11_loadWorks 62 = .ok (.ireturn, 1) := by decide +kernel
set_option maxRecDepth 20000 in
theorem ggX11_expandNumbers_X4_read : GoodIn wsX11_expandNumbers wsX4_read := goodIn_r _ [12, 13, 14, 15, 16, 17, 18, 19, 20, 21, 11, 22, 23, 24, 25, 26, 27, 28, 29, 30, 31, 32, 33, 34, 35, 36, 37, 38, 39, 40, 41, 42, 122, 123, 124, 125, 126, 120, 121] (by decide +kernel) (by decide +kernel)
set_option maxRecDepth 20000 in
theorem gX11_expandNumbers_X4_read : GoodIn wsX11_expandNumbers (wsV RX11 122 RX4 yX4_read wsX4_read) := goodIn_app (goodIn_of _ (by decide +kernel)) ggX11_expandNumbers_X4_read
set_option maxRecDepth 20000 in
theorem ggX11_expandNumbers_X0_update : GoodIn wsX11_expandNumbers wsX0_update := goodIn_r _ [47, 48, 49, 50, 51, 52, 53, 54, 55, 56, 57, 46, 58, 59, 60, 61, 62, 63, 64, 65, 66, 67, 68, 69, 70, 71, 72, 73, 74, 75, 76, 77, 78, 79, 80, 81, 82, 83, 84, 85, 86, 87, 88, 89, 90, 91, 92, 93, 94, 95, 96, 127, 128, 129, 130, 131, 132, 114, 115, 116, 117, 118, 119, 133, 134, 135, 136, 137, 138, 139, 140, 141, 142, 143, 144] (by decide +kernel) (by decide +kernel)
set_option maxRecDepth 20000 in
theorem gX11_expandNumbers_X0_update : GoodIn wsX11_expandNumbers (wsV RX11 125 RX0 yX0_update wsX0_update) := goodIn_app (goodIn_of _ (by decide +kernel)) ggX11_expandNumbers_X0_update
set_option maxRecDepth 20000 in
theorem ggX11_expandNumbers_X0_worksWithNumbers : GoodIn wsX11_expandNumbers wsX0_worksWithNumbers := goodIn_r _ [100, 48, 49, 54, 101, 29, 102, 127, 128, 129, 130, 131, 132, 114, 115, 116, 117, 118, 119] (by decide +kernel) (by decide +kernel)
set_option maxRecDepth 20000 in
theorem gX11_expandNumbers_X0_worksWithNumbers : GoodIn wsX11_expandNumbers (wsV RX11 130 RX0 yX0_worksWithNumbers wsX0_worksWithNumbers) := goodIn_app (goodIn_of _ (by decide +kernel)) ggX11_expandNumbers_X0_worksWithNumbers
theorem dX11_expandNumbers_0 : decode cX11_expandNumbers 0 = .ok (.aload_n 0, 1) := by decide +kernel
theorem dX11_expandNumbers_1 : decode cX11_expandNumbers 1 = .ok (.getfield 28, 3) := by decide +kernel
theorem dX11_expandNumbers_4 : decode cX11_expandNumbers 4 = .ok (.aload_n 0, 1) := by decide +kernel
theorem dX11_expandNumbers_5 : decode cX11_expandNumbers 5 = .ok (.getfield 43, 3) := by decide +kernel
theorem dX11_expandNumbers_8 : decode cX11_expandNumbers 8 = .ok (.getfield 121, 3) := by decide +kernel
theorem dX11_expandNumbers_11 : decode cX11_expandNumbers 11 = .ok (.invokevirtual 122, 3) := by decide +kernel
theorem dX11_expandNumbers_14 : decode cX11_expandNumbers 14 = .ok (.istore_n 1, 1) := by decide +kernel
theorem dX11_expandNumbers_15 : decode cX11_expandNumbers 15 = .ok (.iload_n 1, 1) := by decide +kernel
theorem dX11_expandNumbers_16 : decode cX11_expandNumbers 16 = .ok (.iconst (-1), 1) := by decide +kernel
theorem dX11_expandNumbers_17 : decode cX11_expandNumbers 17 = .ok (.if_icmp .eq 8, 3) := by decide +kernel
theorem dX11_expandNumbers_20 : decode cX11_expandNumbers 20 = .ok (.bipush (-10), 2) := by decide +kernel
theorem dX11_expandNumbers_22 : decode cX11_expandNumbers 22 = .ok (.iload_n 1, 1) := by decide +kernel
theorem dX11_expandNumbers_23 : decode cX11_expandNumbers 23 = .ok (.isub, 1) := by decide +kernel
theorem dX11_expandNumbers_24 : decode cX11_expandNumbers 24 = .ok (.ireturn, 1) := by decide +kernel
theorem dX11_expandNumbers_25 : decode cX11_expandNumbers 25 = .ok (.aload_n 0, 1) := by decide +kernel
theorem dX11_expandNumbers_26 : decode cX11_expandNumbers 26 = .ok (.getfield 10, 3) := by decide +kernel
theorem dX11_expandNumbers_29 : decode cX11_expandNumbers 29 = .ok (.iconst 0, 1) := by decide +kernel
theorem dX11_expandNumbers_30 : decode cX11_expandNumbers 30 = .ok (.putfield 92, 3) := by decide +kernel
theorem dX11_expandNumbers_33 : decode cX11_expandNumbers 33 = .ok (.aload_n 0, 1) := by decide +kernel
theorem dX11_expandNumbers_34 : decode cX11_expandNumbers 34 = .ok (.getfield 66, 3) := by decide +kernel
theorem dX11_expandNumbers_37 : decode cX11_expandNumbers 37 = .ok (.invokevirtual 125, 3) := by decide +kernel
theorem dX11_expandNumbers_40 : decode cX11_expandNumbers 40 = .ok (.aload_n 0, 1) := by decide +kernel
theorem dX11_expandNumbers_41 : decode cX11_expandNumbers 41 = .ok (.getfield 66, 3) := by decide +kernel
theorem dX11_expandNumbers_44 : decode cX11_expandNumbers 44 = .ok (.aload_n 0, 1) := by decide +kernel
theorem dX11_expandNumbers_45 : decode cX11_expandNumbers 45 = .ok (.getfield 28, 3) := by decide +kernel
theorem dX11_expandNumbers_48 : decode cX11_expandNumbers 48 = .ok (.getfield 128, 3) := by decide +kernel
theorem dX11_expandNumbers_51 : decode cX11_expandNumbers 51 = .ok (.invokevirtual 130, 3) := by decide +kernel
theorem dX11_expandNumbers_54 : decode cX11_expandNumbers 54 = .ok (.ireturn, 1) := by decide +kernel
set_option maxRecDepth 20000 in
theorem ggX11_removeWork_X9_has : GoodIn wsX11_removeWork wsX9_has := goodIn_r _ [9, 10, 105, 106, 107, 108, 109, 110] (by decide +kernel) (by decide +kernel)
set_option maxRecDepth 20000 in
theorem gX11_removeWork_X9_has : GoodIn wsX11_removeWork (wsV RX11 133 RX9 yX9_has wsX9_has) := goodIn_app (goodIn_of _ (by decide +kernel)) ggX11_removeWork_X9_has
set_option maxRecDepth 20000 in
theorem ggX11_removeWork_X2_save : GoodIn wsX11_removeWork wsX2_save := goodIn_r _ [15, 16, 17, 18, 19, 20, 21, 22, 23, 24, 25, 26, 27, 28, 29, 30, 31, 32, 33, 34, 8, 35, 10, 36, 37, 38, 39, 40, 41, 42, 43, 44, 45, 46, 47, 48, 49, 50, 51, 52, 53, 54, 55, 56, 57, 58, 59, 60, 61, 62, 63, 64, 65, 66, 67, 68, 69, 70, 111, 112, 113, 114, 115, 116, 117, 105, 106, 107, 108, 109, 110, 118, 119, 120, 121, 122, 123, 124, 125, 126, 102, 103, 104] (by decide +kernel) (by decide +kernel)
set_option maxRecDepth 20000 in
theorem gX11_removeWork_X2_save : GoodIn wsX11_removeWork (wsV RX11 104 RX2 yX2_save wsX2_save) := goodIn_app (goodIn_of _ (by decide +kernel)) ggX11_removeWork_X2_save
set_option maxRecDepth 20000 in
theorem ggX11_removeWork_X9_removeAt : GoodIn wsX11_removeWork wsX9_removeAt := goodIn_r _ [74, 10, 36, 37, 38, 8, 39, 40, 41, 42, 43, 44, 105, 106, 107, 108, 109, 110] (by decide +kernel) (by decide +kernel)
set_option maxRecDepth 20000 in
theorem gX11_removeWork_X9_removeAt : GoodIn wsX11_removeWork (wsV RX11 137 RX9 yX9_removeAt wsX9_removeAt) := goodIn_app (goodIn_of _ (by decide +kernel)) ggX11_removeWork_X9_removeAt
set_option maxRecDepth 20000 in
theorem ggX11_removeWork_X1_dropWork : GoodIn wsX11_removeWork wsX1_dropWork := goodIn_r _ [78, 64, 69, 79, 80, 81, 62, 82, 83, 84, 85, 86, 70, 87, 88, 89, 90, 102, 103, 104] (by decide +kernel) (by decide +kernel)
set_option maxRecDepth 20000 in
theorem gX11_removeWork_X1_dropWork : GoodIn wsX11_removeWork (wsV RX11 140 RX1 yX1_dropWork wsX1_dropWork) := goodIn_app (goodIn_of _ (by decide +kernel)) ggX11_removeWork_X1_dropWork
theorem dX11_removeWork_0 : decode cX11_removeWork 0 = .ok (.aload_n 0, 1) := by decide +kernel
theorem dX11_removeWork_1 : decode cX11_removeWork 1 = .ok (.getfield 43, 3) := by decide +kernel
theorem dX11_removeWork_4 : decode cX11_removeWork 4 = .ok (.iload_n 1, 1) := by decide +kernel
theorem dX11_removeWork_5 : decode cX11_removeWork 5 = .ok (.invokevirtual 133, 3) := by decide +kernel
theorem dX11_removeWork_8 : decode cX11_removeWork 8 = .ok (.ifCond .ne 5, 3) := by decide +kernel
theorem dX11_removeWork_11 : decode cX11_removeWork 11 = .ok (.iconst (-1), 1) := by decide +kernel
theorem dX11_removeWork_12 : decode cX11_removeWork 12 = .ok (.ireturn, 1) := by decide +kernel
theorem dX11_removeWork_13 : decode cX11_removeWork 13 = .ok (.aload_n 0, 1) := by decide +kernel
theorem dX11_removeWork_14 : decode cX11_removeWork 14 = .ok (.getfield 59, 3) := by decide +kernel
theorem dX11_removeWork_17 : decode cX11_removeWork 17 = .ok (.invokevirtual 104, 3) := by decide +kernel
theorem dX11_removeWork_20 : decode cX11_removeWork 20 = .ok (.aload_n 0, 1) := by decide +kernel
theorem dX11_removeWork_21 : decode cX11_removeWork 21 = .ok (.getfield 43, 3) := by decide +kernel
theorem dX11_removeWork_24 : decode cX11_removeWork 24 = .ok (.iload_n 1, 1) := by decide +kernel
theorem dX11_removeWork_25 : decode cX11_removeWork 25 = .ok (.invokevirtual 137, 3) := by decide +kernel
theorem dX11_removeWork_28 : decode cX11_removeWork 28 = .ok (.aload_n 0, 1) := by decide +kernel
theorem dX11_removeWork_29 : decode cX11_removeWork 29 = .ok (.getfield 53, 3) := by decide +kernel
theorem dX11_removeWork_32 : decode cX11_removeWork 32 = .ok (.iload_n 1, 1) := by decide +kernel
theorem dX11_removeWork_33 : decode cX11_removeWork 33 = .ok (.invokevirtual 140, 3) := by decide +kernel
theorem dX11_removeWork_36 : decode cX11_removeWork 36 = .ok (.aload_n 0, 1) := by decide +kernel
theorem dX11_removeWork_37 : decode cX11_removeWork 37 = .ok (.getfield 53, 3) := by decide +kernel
theorem dX11_removeWork_40 : decode cX11_removeWork 40 = .ok (.getfield 116, 3) := by decide +kernel
theorem dX11_removeWork_43 : decode cX11_removeWork 43 = .ok (.ireturn, 1) := by decide +kernel
set_option maxRecDepth 20000 in
theorem ggX11_setYear_X9_has : GoodIn wsX11_setYear wsX9_has := goodIn_r _ [8, 9, 85, 86, 87, 88, 89, 90] (by decide +kernel) (by decide +kernel)
set_option maxRecDepth 20000 in
theorem gX11_setYear_X9_has : GoodIn wsX11_setYear (wsV RX11 133 RX9 yX9_has wsX9_has) := goodIn_app (goodIn_of _ (by decide +kernel)) ggX11_setYear_X9_has
set_option maxRecDepth 20000 in
theorem ggX11_setYear_X11_inRange : GoodIn wsX11_setYear wsX11_inRange := goodIn_r _ [13] (by decide +kernel) (by decide +kernel)
set_option maxRecDepth 20000 in
theorem gX11_setYear_X11_inRange : GoodIn wsX11_setYear (va_wsS RX11 88 yX11_inRange wsX11_inRange) := goodIn_app (goodIn_of _ (by decide +kernel)) ggX11_setYear_X11_inRange
set_option maxRecDepth 20000 in
theorem ggX11_setYear_X2_save : GoodIn wsX11_setYear wsX2_save := goodIn_r _ [18, 19, 20, 21, 22, 23, 24, 25, 26, 27, 28, 29, 30, 31, 32, 33, 34, 35, 36, 37, 7, 38, 9, 39, 40, 41, 42, 43, 44, 45, 46, 47, 48, 49, 50, 51, 52, 53, 54, 55, 56, 57, 58, 59, 60, 61, 62, 63, 64, 65, 66, 67, 68, 69, 70, 71, 72, 73, 91, 92, 93, 94, 95, 96, 97, 85, 86, 87, 88, 89, 90, 98, 99, 100, 101, 102, 103, 104, 105, 106, 107, 108, 109] (by decide +kernel) (by decide +kernel)
set_option maxRecDepth 20000 in
theorem gX11_setYear_X2_save : GoodIn wsX11_setYear (wsV RX11 104 RX2 yX2_save wsX2_save) := goodIn_app (goodIn_of _ (by decide +kernel)) ggX11_setYear_X2_save
theorem dX11_setYear_0 : decode cX11_setYear 0 = .ok (.aload_n 0, 1) := by decide +kernel
theorem dX11_setYear_1 : decode cX11_setYear 1 = .ok (.getfield 43, 3) := by decide +kernel
theorem dX11_setYear_4 : decode cX11_setYear 4 = .ok (.iload_n 1, 1) := by decide +kernel
theorem dX11_setYear_5 : decode cX11_setYear 5 = .ok (.invokevirtual 133, 3) := by decide +kernel
theorem dX11_setYear_8 : decode cX11_setYear 8 = .ok (.ifCond .eq 13, 3) := by decide +kernel
theorem dX11_setYear_11 : decode cX11_setYear 11 = .ok (.iload_n 2, 1) := by decide +kernel
theorem dX11_setYear_12 : decode cX11_setYear 12 = .ok (.iconst 0, 1) := by decide +kernel
theorem dX11_setYear_13 : decode cX11_setYear 13 = .ok (.bipush 99, 2) := by decide +kernel
theorem dX11_setYear_15 : decode cX11_setYear 15 = .ok (.invokestatic 88, 3) := by decide +kernel
theorem dX11_setYear_18 : decode cX11_setYear 18 = .ok (.ifCond .ne 5, 3) := by decide +kernel
theorem dX11_setYear_21 : decode cX11_setYear 21 = .ok (.iconst (-1), 1) := by decide +kernel
theorem dX11_setYear_22 : decode cX11_setYear 22 = .ok (.ireturn, 1) := by decide +kernel
theorem dX11_setYear_23 : decode cX11_setYear 23 = .ok (.aload_n 0, 1) := by decide +kernel
theorem dX11_setYear_24 : decode cX11_setYear 24 = .ok (.getfield 59, 3) := by decide +kernel
theorem dX11_setYear_27 : decode cX11_setYear 27 = .ok (.invokevirtual 104, 3) := by decide +kernel
theorem dX11_setYear_30 : decode cX11_setYear 30 = .ok (.aload_n 0, 1) := by decide +kernel
theorem dX11_setYear_31 : decode cX11_setYear 31 = .ok (.getfield 43, 3) := by decide +kernel
theorem dX11_setYear_34 : decode cX11_setYear 34 = .ok (.getfield 143, 3) := by decide +kernel
theorem dX11_setYear_37 : decode cX11_setYear 37 = .ok (.iload_n 1, 1) := by decide +kernel
theorem dX11_setYear_38 : decode cX11_setYear 38 = .ok (.iaload, 1) := by decide +kernel
theorem dX11_setYear_39 : decode cX11_setYear 39 = .ok (.istore_n 3, 1) := by decide +kernel
theorem dX11_setYear_40 : decode cX11_setYear 40 = .ok (.aload_n 0, 1) := by decide +kernel
theorem dX11_setYear_41 : decode cX11_setYear 41 = .ok (.getfield 43, 3) := by decide +kernel
theorem dX11_setYear_44 : decode cX11_setYear 44 = .ok (.getfield 143, 3) := by decide +kernel
theorem dX11_setYear_47 : decode cX11_setYear 47 = .ok (.iload_n 1, 1) := by decide +kernel
theorem dX11_setYear_48 : decode cX11_setYear 48 = .ok (.iload_n 2, 1) := by decide +kernel
theorem dX11_setYear_49 : decode cX11_setYear 49 = .ok (.iastore, 1) := by decide +kernel
theorem dX11_setYear_50 : decode cX11_setYear 50 = .ok (.iload_n 3, 1) := by decide +kernel
theorem dX11_setYear_51 : decode cX11_setYear 51 = .ok (.ireturn, 1) := by decide +kernel
set_option maxRecDepth 20000 in
theorem ggX11_setStyle_X11_inRange : GoodIn wsX11_setStyle wsX11_inRange := goodIn_r _ [7] (by decide +kernel) (by decide +kernel)
set_option maxRecDepth 20000 in
theorem gX11_setStyle_X11_inRange : GoodIn wsX11_setStyle (va_wsS RX11 88 yX11_inRange wsX11_inRange) := goodIn_app (goodIn_of _ (by decide +kernel)) ggX11_setStyle_X11_inRange
set_option maxRecDepth 20000 in
theorem ggX11_setStyle_X2_save : GoodIn wsX11_setStyle wsX2_save := goodIn_r _ [12, 13, 14, 15, 16, 17, 18, 19, 20, 21, 22, 23, 24, 25, 26, 27, 28, 29, 30, 31, 32, 33, 34, 35, 36, 37, 38, 39, 40, 41, 42, 43, 44, 45, 46, 47, 48, 49, 50, 51, 52, 53, 54, 55, 56, 57, 58, 59, 60, 61, 62, 63, 64, 65, 66, 67, 68, 69, 90, 91, 92, 93, 94, 95, 96, 97, 98, 99, 100, 101, 102, 81, 82, 83, 84, 85, 86, 87, 88, 89, 103, 104, 105] (by decide +kernel) (by decide +kernel)
set_option maxRecDepth 20000 in
theorem gX11_setStyle_X2_save : GoodIn wsX11_setStyle (wsV RX11 104 RX2 yX2_save wsX2_save) := goodIn_app (goodIn_of _ (by decide +kernel)) ggX11_setStyle_X2_save
theorem dX11_setStyle_0 : decode cX11_setStyle 0 = .ok (.iload_n 1, 1) := by decide +kernel
theorem dX11_setStyle_1 : decode cX11_setStyle 1 = .ok (.iconst 0, 1) := by decide +kernel
theorem dX11_setStyle_2 : decode cX11_setStyle 2 = .ok (.iconst 2, 1) := by decide +kernel
theorem dX11_setStyle_3 : decode cX11_setStyle 3 = .ok (.invokestatic 88, 3) := by decide +kernel
theorem dX11_setStyle_6 : decode cX11_setStyle 6 = .ok (.ifCond .ne 5, 3) := by decide +kernel
theorem dX11_setStyle_9 : decode cX11_setStyle 9 = .ok (.iconst (-1), 1) := by decide +kernel
theorem dX11_setStyle_10 : decode cX11_setStyle 10 = .ok (.ireturn, 1) := by decide +kernel
theorem dX11_setStyle_11 : decode cX11_setStyle 11 = .ok (.aload_n 0, 1) := by decide +kernel
theorem dX11_setStyle_12 : decode cX11_setStyle 12 = .ok (.getfield 59, 3) := by decide +kernel
theorem dX11_setStyle_15 : decode cX11_setStyle 15 = .ok (.invokevirtual 104, 3) := by decide +kernel
theorem dX11_setStyle_18 : decode cX11_setStyle 18 = .ok (.aload_n 0, 1) := by decide +kernel
theorem dX11_setStyle_19 : decode cX11_setStyle 19 = .ok (.getfield 48, 3) := by decide +kernel
theorem dX11_setStyle_22 : decode cX11_setStyle 22 = .ok (.getfield 147, 3) := by decide +kernel
theorem dX11_setStyle_25 : decode cX11_setStyle 25 = .ok (.istore_n 2, 1) := by decide +kernel
theorem dX11_setStyle_26 : decode cX11_setStyle 26 = .ok (.aload_n 0, 1) := by decide +kernel
theorem dX11_setStyle_27 : decode cX11_setStyle 27 = .ok (.getfield 48, 3) := by decide +kernel
theorem dX11_setStyle_30 : decode cX11_setStyle 30 = .ok (.iload_n 1, 1) := by decide +kernel
theorem dX11_setStyle_31 : decode cX11_setStyle 31 = .ok (.putfield 147, 3) := by decide +kernel
theorem dX11_setStyle_34 : decode cX11_setStyle 34 = .ok (.iload_n 2, 1) := by decide +kernel
theorem dX11_setStyle_35 : decode cX11_setStyle 35 = .ok (.ireturn, 1) := by decide +kernel
set_option maxRecDepth 20000 in
theorem ggX11_setEtAl_X11_inRange : GoodIn wsX11_setEtAl wsX11_inRange := goodIn_r _ [8] (by decide +kernel) (by decide +kernel)
set_option maxRecDepth 20000 in
theorem gX11_setEtAl_X11_inRange : GoodIn wsX11_setEtAl (va_wsS RX11 88 yX11_inRange wsX11_inRange) := goodIn_app (goodIn_of _ (by decide +kernel)) ggX11_setEtAl_X11_inRange
set_option maxRecDepth 20000 in
theorem ggX11_setEtAl_X2_save : GoodIn wsX11_setEtAl wsX2_save := goodIn_r _ [13, 14, 15, 16, 17, 18, 19, 20, 21, 22, 23, 24, 25, 26, 27, 28, 29, 30, 31, 32, 33, 34, 35, 36, 37, 38, 39, 40, 41, 42, 43, 44, 45, 46, 47, 48, 49, 50, 51, 52, 53, 54, 55, 56, 57, 58, 59, 60, 61, 62, 63, 64, 65, 66, 67, 68, 69, 70, 91, 92, 93, 94, 95, 96, 97, 98, 99, 100, 101, 102, 103, 82, 83, 84, 85, 86, 87, 88, 89, 90, 104, 105, 106] (by decide +kernel) (by decide +kernel)
set_option maxRecDepth 20000 in
theorem gX11_setEtAl_X2_save : GoodIn wsX11_setEtAl (wsV RX11 104 RX2 yX2_save wsX2_save) := goodIn_app (goodIn_of _ (by decide +kernel)) ggX11_setEtAl_X2_save
theorem dX11_setEtAl_0 : decode cX11_setEtAl 0 = .ok (.iload_n 1, 1) := by decide +kernel
theorem dX11_setEtAl_1 : decode cX11_setEtAl 1 = .ok (.iconst 0, 1) := by decide +kernel
theorem dX11_setEtAl_2 : decode cX11_setEtAl 2 = .ok (.iconst 5, 1) := by decide +kernel
theorem dX11_setEtAl_3 : decode cX11_setEtAl 3 = .ok (.invokestatic 88, 3) := by decide +kernel
theorem dX11_setEtAl_6 : decode cX11_setEtAl 6 = .ok (.ifCond .eq 12, 3) := by decide +kernel
theorem dX11_setEtAl_9 : decode cX11_setEtAl 9 = .ok (.iload_n 2, 1) := by decide +kernel
theorem dX11_setEtAl_10 : decode cX11_setEtAl 10 = .ok (.iconst 1, 1) := by decide +kernel
theorem dX11_setEtAl_11 : decode cX11_setEtAl 11 = .ok (.iconst 3, 1) := by decide +kernel
theorem dX11_setEtAl_12 : decode cX11_setEtAl 12 = .ok (.invokestatic 88, 3) := by decide +kernel
theorem dX11_setEtAl_15 : decode cX11_setEtAl 15 = .ok (.ifCond .ne 5, 3) := by decide +kernel
theorem dX11_setEtAl_18 : decode cX11_setEtAl 18 = .ok (.iconst (-1), 1) := by decide +kernel
theorem dX11_setEtAl_19 : decode cX11_setEtAl 19 = .ok (.ireturn, 1) := by decide +kernel
theorem dX11_setEtAl_20 : decode cX11_setEtAl 20 = .ok (.aload_n 0, 1) := by decide +kernel
theorem dX11_setEtAl_21 : decode cX11_setEtAl 21 = .ok (.getfield 59, 3) := by decide +kernel
theorem dX11_setEtAl_24 : decode cX11_setEtAl 24 = .ok (.invokevirtual 104, 3) := by decide +kernel
theorem dX11_setEtAl_27 : decode cX11_setEtAl 27 = .ok (.bipush 10, 2) := by decide +kernel
theorem dX11_setEtAl_29 : decode cX11_setEtAl 29 = .ok (.aload_n 0, 1) := by decide +kernel
theorem dX11_setEtAl_30 : decode cX11_setEtAl 30 = .ok (.getfield 48, 3) := by decide +kernel
theorem dX11_setEtAl_33 : decode cX11_setEtAl 33 = .ok (.getfield 152, 3) := by decide +kernel
theorem dX11_setEtAl_36 : decode cX11_setEtAl 36 = .ok (.imul, 1) := by decide +kernel
theorem dX11_setEtAl_37 : decode cX11_setEtAl 37 = .ok (.aload_n 0, 1) := by decide +kernel
theorem dX11_setEtAl_38 : decode cX11_setEtAl 38 = .ok (.getfield 48, 3) := by decide +kernel
theorem dX11_setEtAl_41 : decode cX11_setEtAl 41 = .ok (.getfield 155, 3) := by decide +kernel
theorem dX11_setEtAl_44 : decode cX11_setEtAl 44 = .ok (.iadd, 1) := by decide +kernel
theorem dX11_setEtAl_45 : decode cX11_setEtAl 45 = .ok (.istore_n 3, 1) := by decide +kernel
theorem dX11_setEtAl_46 : decode cX11_setEtAl 46 = .ok (.aload_n 0, 1) := by decide +kernel
theorem dX11_setEtAl_47 : decode cX11_setEtAl 47 = .ok (.getfield 48, 3) := by decide +kernel
theorem dX11_setEtAl_50 : decode cX11_setEtAl 50 = .ok (.iload_n 1, 1) := by decide +kernel
theorem dX11_setEtAl_51 : decode cX11_setEtAl 51 = .ok (.putfield 152, 3) := by decide +kernel
theorem dX11_setEtAl_54 : decode cX11_setEtAl 54 = .ok (.aload_n 0, 1) := by decide +kernel
theorem dX11_setEtAl_55 : decode cX11_setEtAl 55 = .ok (.getfield 48, 3) := by decide +kernel
theorem dX11_setEtAl_58 : decode cX11_setEtAl 58 = .ok (.iload_n 2, 1) := by decide +kernel
theorem dX11_setEtAl_59 : decode cX11_setEtAl 59 = .ok (.putfield 155, 3) := by decide +kernel
theorem dX11_setEtAl_62 : decode cX11_setEtAl 62 = .ok (.iload_n 3, 1) := by decide +kernel
theorem dX11_setEtAl_63 : decode cX11_setEtAl 63 = .ok (.ireturn, 1) := by decide +kernel
set_option maxRecDepth 20000 in
theorem ggX11_setDisambiguation_X11_inRange : GoodIn wsX11_setDisambiguation wsX11_inRange := goodIn_r _ [7] (by decide +kernel) (by decide +kernel)
set_option maxRecDepth 20000 in
theorem gX11_setDisambiguation_X11_inRange : GoodIn wsX11_setDisambiguation (va_wsS RX11 88 yX11_inRange wsX11_inRange) := goodIn_app (goodIn_of _ (by decide +kernel)) ggX11_setDisambiguation_X11_inRange
set_option maxRecDepth 20000 in
theorem ggX11_setDisambiguation_X2_save : GoodIn wsX11_setDisambiguation wsX2_save := goodIn_r _ [12, 13, 14, 15, 16, 17, 18, 19, 20, 21, 22, 23, 24, 25, 26, 27, 28, 29, 30, 31, 32, 33, 34, 35, 36, 37, 38, 39, 40, 41, 42, 43, 44, 45, 46, 47, 48, 49, 50, 51, 52, 53, 54, 55, 56, 57, 58, 59, 60, 61, 62, 63, 64, 65, 66, 67, 68, 69, 90, 91, 92, 93, 94, 95, 96, 97, 98, 99, 100, 101, 102, 81, 82, 83, 84, 85, 86, 87, 88, 89, 103, 104, 105] (by decide +kernel) (by decide +kernel)
set_option maxRecDepth 20000 in
theorem gX11_setDisambiguation_X2_save : GoodIn wsX11_setDisambiguation (wsV RX11 104 RX2 yX2_save wsX2_save) := goodIn_app (goodIn_of _ (by decide +kernel)) ggX11_setDisambiguation_X2_save
theorem dX11_setDisambiguation_0 : decode cX11_setDisambiguation 0 = .ok (.iload_n 1, 1) := by decide +kernel
theorem dX11_setDisambiguation_1 : decode cX11_setDisambiguation 1 = .ok (.iconst 0, 1) := by decide +kernel
theorem dX11_setDisambiguation_2 : decode cX11_setDisambiguation 2 = .ok (.bipush 7, 2) := by decide +kernel
theorem dX11_setDisambiguation_4 : decode cX11_setDisambiguation 4 = .ok (.invokestatic 88, 3) := by decide +kernel
theorem dX11_setDisambiguation_7 : decode cX11_setDisambiguation 7 = .ok (.ifCond .ne 5, 3) := by decide +kernel
theorem dX11_setDisambiguation_10 : decode cX11_setDisambiguation 10 = .ok (.iconst (-1), 1) := by decide +kernel
theorem dX11_setDisambiguation_11 : decode cX11_setDisambiguation 11 = .ok (.ireturn, 1) := by decide +kernel
theorem dX11_setDisambiguation_12 : decode cX11_setDisambiguation 12 = .ok (.aload_n 0, 1) := by decide +kernel
theorem dX11_setDisambiguation_13 : decode cX11_setDisambiguation 13 = .ok (.getfield 59, 3) := by decide +kernel
theorem dX11_setDisambiguation_16 : decode cX11_setDisambiguation 16 = .ok (.invokevirtual 104, 3) := by decide +kernel
theorem dX11_setDisambiguation_19 : decode cX11_setDisambiguation 19 = .ok (.aload_n 0, 1) := by decide +kernel
theorem dX11_setDisambiguation_20 : decode cX11_setDisambiguation 20 = .ok (.getfield 48, 3) := by decide +kernel
theorem dX11_setDisambiguation_23 : decode cX11_setDisambiguation 23 = .ok (.getfield 158, 3) := by decide +kernel
theorem dX11_setDisambiguation_26 : decode cX11_setDisambiguation 26 = .ok (.istore_n 2, 1) := by decide +kernel
theorem dX11_setDisambiguation_27 : decode cX11_setDisambiguation 27 = .ok (.aload_n 0, 1) := by decide +kernel
theorem dX11_setDisambiguation_28 : decode cX11_setDisambiguation 28 = .ok (.getfield 48, 3) := by decide +kernel
theorem dX11_setDisambiguation_31 : decode cX11_setDisambiguation 31 = .ok (.iload_n 1, 1) := by decide +kernel
theorem dX11_setDisambiguation_32 : decode cX11_setDisambiguation 32 = .ok (.putfield 158, 3) := by decide +kernel
theorem dX11_setDisambiguation_35 : decode cX11_setDisambiguation 35 = .ok (.iload_n 2, 1) := by decide +kernel
theorem dX11_setDisambiguation_36 : decode cX11_setDisambiguation 36 = .ok (.ireturn, 1) := by decide +kernel
set_option maxRecDepth 20000 in
theorem ggX11_setCollapseLevel_X11_inRange : GoodIn wsX11_setCollapseLevel wsX11_inRange := goodIn_r _ [7] (by decide +kernel) (by decide +kernel)
set_option maxRecDepth 20000 in
theorem gX11_setCollapseLevel_X11_inRange : GoodIn wsX11_setCollapseLevel (va_wsS RX11 88 yX11_inRange wsX11_inRange) := goodIn_app (goodIn_of _ (by decide +kernel)) ggX11_setCollapseLevel_X11_inRange
set_option maxRecDepth 20000 in
theorem ggX11_setCollapseLevel_X2_save : GoodIn wsX11_setCollapseLevel wsX2_save := goodIn_r _ [12, 13, 14, 15, 16, 17, 18, 19, 20, 21, 22, 23, 24, 25, 26, 27, 28, 29, 30, 31, 32, 33, 34, 35, 36, 37, 38, 39, 40, 41, 42, 43, 44, 45, 46, 47, 48, 49, 50, 51, 52, 53, 54, 55, 56, 57, 58, 59, 60, 61, 62, 63, 64, 65, 66, 67, 68, 69, 90, 91, 92, 93, 94, 95, 96, 97, 98, 99, 100, 101, 102, 81, 82, 83, 84, 85, 86, 87, 88, 89, 103, 104, 105] (by decide +kernel) (by decide +kernel)
set_option maxRecDepth 20000 in
theorem gX11_setCollapseLevel_X2_save : GoodIn wsX11_setCollapseLevel (wsV RX11 104 RX2 yX2_save wsX2_save) := goodIn_app (goodIn_of _ (by decide +kernel)) ggX11_setCollapseLevel_X2_save
theorem dX11_setCollapseLevel_0 : decode cX11_setCollapseLevel 0 = .ok (.iload_n 1, 1) := by decide +kernel
theorem dX11_setCollapseLevel_1 : decode cX11_setCollapseLevel 1 = .ok (.iconst 0, 1) := by decide +kernel
theorem dX11_setCollapseLevel_2 : decode cX11_setCollapseLevel 2 = .ok (.iconst 2, 1) := by decide +kernel
theorem dX11_setCollapseLevel_3 : decode cX11_setCollapseLevel 3 = .ok (.invokestatic 88, 3) := by decide +kernel
theorem dX11_setCollapseLevel_6 : decode cX11_setCollapseLevel 6 = .ok (.ifCond .ne 5, 3) := by decide +kernel
theorem dX11_setCollapseLevel_9 : decode cX11_setCollapseLevel 9 = .ok (.iconst (-1), 1) := by decide +kernel
theorem dX11_setCollapseLevel_10 : decode cX11_setCollapseLevel 10 = .ok (.ireturn, 1) := by decide +kernel
theorem dX11_setCollapseLevel_11 : decode cX11_setCollapseLevel 11 = .ok (.aload_n 0, 1) := by decide +kernel
theorem dX11_setCollapseLevel_12 : decode cX11_setCollapseLevel 12 = .ok (.getfield 59, 3) := by decide +kernel
theorem dX11_setCollapseLevel_15 : decode cX11_setCollapseLevel 15 = .ok (.invokevirtual 104, 3) := by decide +kernel
theorem dX11_setCollapseLevel_18 : decode cX11_setCollapseLevel 18 = .ok (.aload_n 0, 1) := by decide +kernel
theorem dX11_setCollapseLevel_19 : decode cX11_setCollapseLevel 19 = .ok (.getfield 48, 3) := by decide +kernel
theorem dX11_setCollapseLevel_22 : decode cX11_setCollapseLevel 22 = .ok (.getfield 161, 3) := by decide +kernel
theorem dX11_setCollapseLevel_25 : decode cX11_setCollapseLevel 25 = .ok (.istore_n 2, 1) := by decide +kernel
theorem dX11_setCollapseLevel_26 : decode cX11_setCollapseLevel 26 = .ok (.aload_n 0, 1) := by decide +kernel
theorem dX11_setCollapseLevel_27 : decode cX11_setCollapseLevel 27 = .ok (.getfield 48, 3) := by decide +kernel
theorem dX11_setCollapseLevel_30 : decode cX11_setCollapseLevel 30 = .ok (.iload_n 1, 1) := by decide +kernel
theorem dX11_setCollapseLevel_31 : decode cX11_setCollapseLevel 31 = .ok (.putfield 161, 3) := by decide +kernel
theorem dX11_setCollapseLevel_34 : decode cX11_setCollapseLevel 34 = .ok (.iload_n 2, 1) := by decide +kernel
theorem dX11_setCollapseLevel_35 : decode cX11_setCollapseLevel 35 = .ok (.ireturn, 1) := by decide +kernel
set_option maxRecDepth 20000 in
theorem ggX11_setSortSlot_X11_inRange : GoodIn wsX11_setSortSlot wsX11_inRange := goodIn_r _ [8] (by decide +kernel) (by decide +kernel)
set_option maxRecDepth 20000 in
theorem gX11_setSortSlot_X11_inRange : GoodIn wsX11_setSortSlot (va_wsS RX11 88 yX11_inRange wsX11_inRange) := goodIn_app (goodIn_of _ (by decide +kernel)) ggX11_setSortSlot_X11_inRange
set_option maxRecDepth 20000 in
theorem ggX11_setSortSlot_X2_save : GoodIn wsX11_setSortSlot wsX2_save := goodIn_r _ [13, 14, 15, 16, 17, 18, 19, 20, 21, 22, 23, 24, 25, 26, 27, 28, 29, 30, 31, 32, 33, 34, 35, 36, 37, 38, 39, 40, 41, 42, 43, 44, 45, 46, 47, 48, 49, 50, 51, 52, 53, 54, 55, 56, 57, 58, 59, 60, 61, 62, 63, 64, 65, 66, 67, 68, 69, 70, 91, 92, 93, 94, 95, 96, 97, 98, 99, 100, 101, 102, 103, 82, 83, 84, 85, 86, 87, 88, 89, 90, 104, 105, 106] (by decide +kernel) (by decide +kernel)
set_option maxRecDepth 20000 in
theorem gX11_setSortSlot_X2_save : GoodIn wsX11_setSortSlot (wsV RX11 104 RX2 yX2_save wsX2_save) := goodIn_app (goodIn_of _ (by decide +kernel)) ggX11_setSortSlot_X2_save
theorem dX11_setSortSlot_0 : decode cX11_setSortSlot 0 = .ok (.iload_n 1, 1) := by decide +kernel
theorem dX11_setSortSlot_1 : decode cX11_setSortSlot 1 = .ok (.iconst 0, 1) := by decide +kernel
theorem dX11_setSortSlot_2 : decode cX11_setSortSlot 2 = .ok (.iconst 2, 1) := by decide +kernel
theorem dX11_setSortSlot_3 : decode cX11_setSortSlot 3 = .ok (.invokestatic 88, 3) := by decide +kernel
theorem dX11_setSortSlot_6 : decode cX11_setSortSlot 6 = .ok (.ifCond .eq 21, 3) := by decide +kernel
theorem dX11_setSortSlot_9 : decode cX11_setSortSlot 9 = .ok (.iload_n 2, 1) := by decide +kernel
theorem dX11_setSortSlot_10 : decode cX11_setSortSlot 10 = .ok (.iconst 0, 1) := by decide +kernel
theorem dX11_setSortSlot_11 : decode cX11_setSortSlot 11 = .ok (.iconst 3, 1) := by decide +kernel
theorem dX11_setSortSlot_12 : decode cX11_setSortSlot 12 = .ok (.invokestatic 88, 3) := by decide +kernel
theorem dX11_setSortSlot_15 : decode cX11_setSortSlot 15 = .ok (.ifCond .eq 12, 3) := by decide +kernel
theorem dX11_setSortSlot_18 : decode cX11_setSortSlot 18 = .ok (.iload_n 3, 1) := by decide +kernel
theorem dX11_setSortSlot_19 : decode cX11_setSortSlot 19 = .ok (.iconst 0, 1) := by decide +kernel
theorem dX11_setSortSlot_20 : decode cX11_setSortSlot 20 = .ok (.iconst 1, 1) := by decide +kernel
theorem dX11_setSortSlot_21 : decode cX11_setSortSlot 21 = .ok (.invokestatic 88, 3) := by decide +kernel
theorem dX11_setSortSlot_24 : decode cX11_setSortSlot 24 = .ok (.ifCond .ne 5, 3) := by decide +kernel
theorem dX11_setSortSlot_27 : decode cX11_setSortSlot 27 = .ok (.iconst (-1), 1) := by decide +kernel
theorem dX11_setSortSlot_28 : decode cX11_setSortSlot 28 = .ok (.ireturn, 1) := by decide +kernel
theorem dX11_setSortSlot_29 : decode cX11_setSortSlot 29 = .ok (.aload_n 0, 1) := by decide +kernel
theorem dX11_setSortSlot_30 : decode cX11_setSortSlot 30 = .ok (.getfield 59, 3) := by decide +kernel
theorem dX11_setSortSlot_33 : decode cX11_setSortSlot 33 = .ok (.invokevirtual 104, 3) := by decide +kernel
theorem dX11_setSortSlot_36 : decode cX11_setSortSlot 36 = .ok (.iconst 2, 1) := by decide +kernel
theorem dX11_setSortSlot_37 : decode cX11_setSortSlot 37 = .ok (.aload_n 0, 1) := by decide +kernel
theorem dX11_setSortSlot_38 : decode cX11_setSortSlot 38 = .ok (.getfield 48, 3) := by decide +kernel
theorem dX11_setSortSlot_41 : decode cX11_setSortSlot 41 = .ok (.getfield 164, 3) := by decide +kernel
theorem dX11_setSortSlot_44 : decode cX11_setSortSlot 44 = .ok (.iload_n 1, 1) := by decide +kernel
theorem dX11_setSortSlot_45 : decode cX11_setSortSlot 45 = .ok (.iaload, 1) := by decide +kernel
theorem dX11_setSortSlot_46 : decode cX11_setSortSlot 46 = .ok (.imul, 1) := by decide +kernel
theorem dX11_setSortSlot_47 : decode cX11_setSortSlot 47 = .ok (.aload_n 0, 1) := by decide +kernel
theorem dX11_setSortSlot_48 : decode cX11_setSortSlot 48 = .ok (.getfield 48, 3) := by decide +kernel
theorem dX11_setSortSlot_51 : decode cX11_setSortSlot 51 = .ok (.getfield 167, 3) := by decide +kernel
theorem dX11_setSortSlot_54 : decode cX11_setSortSlot 54 = .ok (.iload_n 1, 1) := by decide +kernel
theorem dX11_setSortSlot_55 : decode cX11_setSortSlot 55 = .ok (.iaload, 1) := by decide +kernel
theorem dX11_setSortSlot_56 : decode cX11_setSortSlot 56 = .ok (.iadd, 1) := by decide +kernel
theorem dX11_setSortSlot_57 : decode cX11_setSortSlot 57 = .ok (.istore 4, 2) := by decide +kernel
theorem dX11_setSortSlot_59 : decode cX11_setSortSlot 59 = .ok (.aload_n 0, 1) := by decide +kernel
theorem dX11_setSortSlot_60 : decode cX11_setSortSlot 60 = .ok (.getfield 48, 3) := by decide +kernel
theorem dX11_setSortSlot_63 : decode cX11_setSortSlot 63 = .ok (.getfield 164, 3) := by decide +kernel
theorem dX11_setSortSlot_66 : decode cX11_setSortSlot 66 = .ok (.iload_n 1, 1) := by decide +kernel
theorem dX11_setSortSlot_67 : decode cX11_setSortSlot 67 = .ok (.iload_n 2, 1) := by decide +kernel
theorem dX11_setSortSlot_68 : decode cX11_setSortSlot 68 = .ok (.iastore, 1) := by decide +kernel
theorem dX11_setSortSlot_69 : decode cX11_setSortSlot 69 = .ok (.aload_n 0, 1) := by decide +kernel
theorem dX11_setSortSlot_70 : decode cX11_setSortSlot 70 = .ok (.getfield 48, 3) := by decide +kernel
theorem dX11_setSortSlot_73 : decode cX11_setSortSlot 73 = .ok (.getfield 167, 3) := by decide +kernel
theorem dX11_setSortSlot_76 : decode cX11_setSortSlot 76 = .ok (.iload_n 1, 1) := by decide +kernel
theorem dX11_setSortSlot_77 : decode cX11_setSortSlot 77 = .ok (.iload_n 3, 1) := by decide +kernel
theorem dX11_setSortSlot_78 : decode cX11_setSortSlot 78 = .ok (.iastore, 1) := by decide +kernel
theorem dX11_setSortSlot_79 : decode cX11_setSortSlot 79 = .ok (.iload 4, 2) := by decide +kernel
theorem dX11_setSortSlot_81 : decode cX11_setSortSlot 81 = .ok (.ireturn, 1) := by decide +kernel
set_option maxRecDepth 20000 in
theorem ggX11_setNumbering_X11_inRange : GoodIn wsX11_setNumbering wsX11_inRange := goodIn_r _ [7] (by decide +kernel) (by decide +kernel)
set_option maxRecDepth 20000 in
theorem gX11_setNumbering_X11_inRange : GoodIn wsX11_setNumbering (va_wsS RX11 88 yX11_inRange wsX11_inRange) := goodIn_app (goodIn_of _ (by decide +kernel)) ggX11_setNumbering_X11_inRange
set_option maxRecDepth 20000 in
theorem ggX11_setNumbering_X2_save : GoodIn wsX11_setNumbering wsX2_save := goodIn_r _ [12, 13, 14, 15, 16, 17, 18, 19, 20, 21, 22, 23, 24, 25, 26, 27, 28, 29, 30, 31, 32, 33, 34, 35, 36, 37, 38, 39, 40, 41, 42, 43, 44, 45, 46, 47, 48, 49, 50, 51, 52, 53, 54, 55, 56, 57, 58, 59, 60, 61, 62, 63, 64, 65, 66, 67, 68, 69, 90, 91, 92, 93, 94, 95, 96, 97, 98, 99, 100, 101, 102, 81, 82, 83, 84, 85, 86, 87, 88, 89, 103, 104, 105] (by decide +kernel) (by decide +kernel)
set_option maxRecDepth 20000 in
theorem gX11_setNumbering_X2_save : GoodIn wsX11_setNumbering (wsV RX11 104 RX2 yX2_save wsX2_save) := goodIn_app (goodIn_of _ (by decide +kernel)) ggX11_setNumbering_X2_save
theorem dX11_setNumbering_0 : decode cX11_setNumbering 0 = .ok (.iload_n 1, 1) := by decide +kernel
theorem dX11_setNumbering_1 : decode cX11_setNumbering 1 = .ok (.iconst 0, 1) := by decide +kernel
theorem dX11_setNumbering_2 : decode cX11_setNumbering 2 = .ok (.iconst 1, 1) := by decide +kernel
theorem dX11_setNumbering_3 : decode cX11_setNumbering 3 = .ok (.invokestatic 88, 3) := by decide +kernel
theorem dX11_setNumbering_6 : decode cX11_setNumbering 6 = .ok (.ifCond .ne 5, 3) := by decide +kernel
theorem dX11_setNumbering_9 : decode cX11_setNumbering 9 = .ok (.iconst (-1), 1) := by decide +kernel
theorem dX11_setNumbering_10 : decode cX11_setNumbering 10 = .ok (.ireturn, 1) := by decide +kernel
theorem dX11_setNumbering_11 : decode cX11_setNumbering 11 = .ok (.aload_n 0, 1) := by decide +kernel
theorem dX11_setNumbering_12 : decode cX11_setNumbering 12 = .ok (.getfield 59, 3) := by decide +kernel
theorem dX11_setNumbering_15 : decode cX11_setNumbering 15 = .ok (.invokevirtual 104, 3) := by decide +kernel
theorem dX11_setNumbering_18 : decode cX11_setNumbering 18 = .ok (.aload_n 0, 1) := by decide +kernel
theorem dX11_setNumbering_19 : decode cX11_setNumbering 19 = .ok (.getfield 48, 3) := by decide +kernel
theorem dX11_setNumbering_22 : decode cX11_setNumbering 22 = .ok (.getfield 170, 3) := by decide +kernel
theorem dX11_setNumbering_25 : decode cX11_setNumbering 25 = .ok (.istore_n 2, 1) := by decide +kernel
theorem dX11_setNumbering_26 : decode cX11_setNumbering 26 = .ok (.aload_n 0, 1) := by decide +kernel
theorem dX11_setNumbering_27 : decode cX11_setNumbering 27 = .ok (.getfield 48, 3) := by decide +kernel
theorem dX11_setNumbering_30 : decode cX11_setNumbering 30 = .ok (.iload_n 1, 1) := by decide +kernel
theorem dX11_setNumbering_31 : decode cX11_setNumbering 31 = .ok (.putfield 170, 3) := by decide +kernel
theorem dX11_setNumbering_34 : decode cX11_setNumbering 34 = .ok (.iload_n 2, 1) := by decide +kernel
theorem dX11_setNumbering_35 : decode cX11_setNumbering 35 = .ok (.ireturn, 1) := by decide +kernel
set_option maxRecDepth 20000 in
theorem ggX11_setCiteOrder_X11_inRange : GoodIn wsX11_setCiteOrder wsX11_inRange := goodIn_r _ [7] (by decide +kernel) (by decide +kernel)
set_option maxRecDepth 20000 in
theorem gX11_setCiteOrder_X11_inRange : GoodIn wsX11_setCiteOrder (va_wsS RX11 88 yX11_inRange wsX11_inRange) := goodIn_app (goodIn_of _ (by decide +kernel)) ggX11_setCiteOrder_X11_inRange
set_option maxRecDepth 20000 in
theorem ggX11_setCiteOrder_X2_save : GoodIn wsX11_setCiteOrder wsX2_save := goodIn_r _ [12, 13, 14, 15, 16, 17, 18, 19, 20, 21, 22, 23, 24, 25, 26, 27, 28, 29, 30, 31, 32, 33, 34, 35, 36, 37, 38, 39, 40, 41, 42, 43, 44, 45, 46, 47, 48, 49, 50, 51, 52, 53, 54, 55, 56, 57, 58, 59, 60, 61, 62, 63, 64, 65, 66, 67, 68, 69, 90, 91, 92, 93, 94, 95, 96, 97, 98, 99, 100, 101, 102, 81, 82, 83, 84, 85, 86, 87, 88, 89, 103, 104, 105] (by decide +kernel) (by decide +kernel)
set_option maxRecDepth 20000 in
theorem gX11_setCiteOrder_X2_save : GoodIn wsX11_setCiteOrder (wsV RX11 104 RX2 yX2_save wsX2_save) := goodIn_app (goodIn_of _ (by decide +kernel)) ggX11_setCiteOrder_X2_save
theorem dX11_setCiteOrder_0 : decode cX11_setCiteOrder 0 = .ok (.iload_n 1, 1) := by decide +kernel
theorem dX11_setCiteOrder_1 : decode cX11_setCiteOrder 1 = .ok (.iconst 0, 1) := by decide +kernel
theorem dX11_setCiteOrder_2 : decode cX11_setCiteOrder 2 = .ok (.iconst 1, 1) := by decide +kernel
theorem dX11_setCiteOrder_3 : decode cX11_setCiteOrder 3 = .ok (.invokestatic 88, 3) := by decide +kernel
theorem dX11_setCiteOrder_6 : decode cX11_setCiteOrder 6 = .ok (.ifCond .ne 5, 3) := by decide +kernel
theorem dX11_setCiteOrder_9 : decode cX11_setCiteOrder 9 = .ok (.iconst (-1), 1) := by decide +kernel
theorem dX11_setCiteOrder_10 : decode cX11_setCiteOrder 10 = .ok (.ireturn, 1) := by decide +kernel
theorem dX11_setCiteOrder_11 : decode cX11_setCiteOrder 11 = .ok (.aload_n 0, 1) := by decide +kernel
theorem dX11_setCiteOrder_12 : decode cX11_setCiteOrder 12 = .ok (.getfield 59, 3) := by decide +kernel
theorem dX11_setCiteOrder_15 : decode cX11_setCiteOrder 15 = .ok (.invokevirtual 104, 3) := by decide +kernel
theorem dX11_setCiteOrder_18 : decode cX11_setCiteOrder 18 = .ok (.aload_n 0, 1) := by decide +kernel
theorem dX11_setCiteOrder_19 : decode cX11_setCiteOrder 19 = .ok (.getfield 48, 3) := by decide +kernel
theorem dX11_setCiteOrder_22 : decode cX11_setCiteOrder 22 = .ok (.getfield 173, 3) := by decide +kernel
theorem dX11_setCiteOrder_25 : decode cX11_setCiteOrder 25 = .ok (.istore_n 2, 1) := by decide +kernel
theorem dX11_setCiteOrder_26 : decode cX11_setCiteOrder 26 = .ok (.aload_n 0, 1) := by decide +kernel
theorem dX11_setCiteOrder_27 : decode cX11_setCiteOrder 27 = .ok (.getfield 48, 3) := by decide +kernel
theorem dX11_setCiteOrder_30 : decode cX11_setCiteOrder 30 = .ok (.iload_n 1, 1) := by decide +kernel
theorem dX11_setCiteOrder_31 : decode cX11_setCiteOrder 31 = .ok (.putfield 173, 3) := by decide +kernel
theorem dX11_setCiteOrder_34 : decode cX11_setCiteOrder 34 = .ok (.iload_n 2, 1) := by decide +kernel
theorem dX11_setCiteOrder_35 : decode cX11_setCiteOrder 35 = .ok (.ireturn, 1) := by decide +kernel
set_option maxRecDepth 20000 in
theorem ggX11_beginCitation_X9_has : GoodIn wsX11_beginCitation wsX9_has := goodIn_r _ [9, 10, 93, 94, 95, 96, 97, 98] (by decide +kernel) (by decide +kernel)
set_option maxRecDepth 20000 in
theorem gX11_beginCitation_X9_has : GoodIn wsX11_beginCitation (wsV RX11 133 RX9 yX9_has wsX9_has) := goodIn_app (goodIn_of _ (by decide +kernel)) ggX11_beginCitation_X9_has
set_option maxRecDepth 20000 in
theorem ggX11_beginCitation_X2_save : GoodIn wsX11_beginCitation wsX2_save := goodIn_r _ [15, 16, 17, 18, 19, 20, 21, 22, 23, 24, 25, 26, 27, 28, 29, 30, 31, 32, 33, 34, 8, 35, 10, 36, 37, 38, 39, 40, 41, 42, 43, 44, 45, 46, 47, 48, 49, 50, 51, 52, 53, 54, 55, 56, 57, 58, 59, 60, 61, 62, 63, 64, 65, 66, 67, 68, 69, 70, 99, 100, 101, 102, 103, 104, 105, 93, 94, 95, 96, 97, 98, 106, 107, 108, 109, 110, 111, 112, 113, 114, 90, 91, 92] (by decide +kernel) (by decide +kernel)
set_option maxRecDepth 20000 in
theorem gX11_beginCitation_X2_save : GoodIn wsX11_beginCitation (wsV RX11 104 RX2 yX2_save wsX2_save) := goodIn_app (goodIn_of _ (by decide +kernel)) ggX11_beginCitation_X2_save
set_option maxRecDepth 20000 in
theorem ggX11_beginCitation_X1_begin : GoodIn wsX11_beginCitation wsX1_begin := goodIn_r _ [74, 64, 69, 75, 76, 77, 62, 78, 70, 90, 91, 92] (by decide +kernel) (by decide +kernel)
set_option maxRecDepth 20000 in
theorem gX11_beginCitation_X1_begin : GoodIn wsX11_beginCitation (wsV RX11 176 RX1 yX1_begin wsX1_begin) := goodIn_app (goodIn_of _ (by decide +kernel)) ggX11_beginCitation_X1_begin
theorem dX11_beginCitation_0 : decode cX11_beginCitation 0 = .ok (.aload_n 0, 1) := by decide +kernel
theorem dX11_beginCitation_1 : decode cX11_beginCitation 1 = .ok (.getfield 43, 3) := by decide +kernel
theorem dX11_beginCitation_4 : decode cX11_beginCitation 4 = .ok (.iload_n 1, 1) := by decide +kernel
theorem dX11_beginCitation_5 : decode cX11_beginCitation 5 = .ok (.invokevirtual 133, 3) := by decide +kernel
theorem dX11_beginCitation_8 : decode cX11_beginCitation 8 = .ok (.ifCond .ne 5, 3) := by decide +kernel
theorem dX11_beginCitation_11 : decode cX11_beginCitation 11 = .ok (.iconst (-1), 1) := by decide +kernel
theorem dX11_beginCitation_12 : decode cX11_beginCitation 12 = .ok (.ireturn, 1) := by decide +kernel
theorem dX11_beginCitation_13 : decode cX11_beginCitation 13 = .ok (.aload_n 0, 1) := by decide +kernel
theorem dX11_beginCitation_14 : decode cX11_beginCitation 14 = .ok (.getfield 53, 3) := by decide +kernel
theorem dX11_beginCitation_17 : decode cX11_beginCitation 17 = .ok (.getfield 116, 3) := by decide +kernel
theorem dX11_beginCitation_20 : decode cX11_beginCitation 20 = .ok (.bipush 10, 2) := by decide +kernel
theorem dX11_beginCitation_22 : decode cX11_beginCitation 22 = .ok (.if_icmp .lt 6, 3) := by decide +kernel
theorem dX11_beginCitation_25 : decode cX11_beginCitation 25 = .ok (.bipush (-3), 2) := by decide +kernel
theorem dX11_beginCitation_27 : decode cX11_beginCitation 27 = .ok (.ireturn, 1) := by decide +kernel
theorem dX11_beginCitation_28 : decode cX11_beginCitation 28 = .ok (.aload_n 0, 1) := by decide +kernel
theorem dX11_beginCitation_29 : decode cX11_beginCitation 29 = .ok (.getfield 59, 3) := by decide +kernel
theorem dX11_beginCitation_32 : decode cX11_beginCitation 32 = .ok (.invokevirtual 104, 3) := by decide +kernel
theorem dX11_beginCitation_35 : decode cX11_beginCitation 35 = .ok (.aload_n 0, 1) := by decide +kernel
theorem dX11_beginCitation_36 : decode cX11_beginCitation 36 = .ok (.getfield 53, 3) := by decide +kernel
theorem dX11_beginCitation_39 : decode cX11_beginCitation 39 = .ok (.iload_n 1, 1) := by decide +kernel
theorem dX11_beginCitation_40 : decode cX11_beginCitation 40 = .ok (.invokevirtual 176, 3) := by decide +kernel
theorem dX11_beginCitation_43 : decode cX11_beginCitation 43 = .ok (.aload_n 0, 1) := by decide +kernel
theorem dX11_beginCitation_44 : decode cX11_beginCitation 44 = .ok (.getfield 53, 3) := by decide +kernel
theorem dX11_beginCitation_47 : decode cX11_beginCitation 47 = .ok (.getfield 116, 3) := by decide +kernel
theorem dX11_beginCitation_50 : decode cX11_beginCitation 50 = .ok (.iconst 1, 1) := by decide +kernel
theorem dX11_beginCitation_51 : decode cX11_beginCitation 51 = .ok (.isub, 1) := by decide +kernel
theorem dX11_beginCitation_52 : decode cX11_beginCitation 52 = .ok (.ireturn, 1) := by decide +kernel
set_option maxRecDepth 20000 in
theorem ggX11_addToCitation_X9_has : GoodIn wsX11_addToCitation wsX9_has := goodIn_r _ [10, 11, 98, 99, 100, 101, 102, 103] (by decide +kernel) (by decide +kernel)
set_option maxRecDepth 20000 in
theorem gX11_addToCitation_X9_has : GoodIn wsX11_addToCitation (wsV RX11 133 RX9 yX9_has wsX9_has) := goodIn_app (goodIn_of _ (by decide +kernel)) ggX11_addToCitation_X9_has
set_option maxRecDepth 20000 in
theorem ggX11_addToCitation_X1_cites : GoodIn wsX11_addToCitation wsX1_cites := goodIn_r _ [16, 17, 18, 19, 20, 15, 21, 22, 95, 96, 97] (by decide +kernel) (by decide +kernel)
set_option maxRecDepth 20000 in
theorem gX11_addToCitation_X1_cites : GoodIn wsX11_addToCitation (wsV RX11 179 RX1 yX1_cites wsX1_cites) := goodIn_app (goodIn_of _ (by decide +kernel)) ggX11_addToCitation_X1_cites
set_option maxRecDepth 20000 in
theorem ggX11_addToCitation_X2_save : GoodIn wsX11_addToCitation wsX2_save := goodIn_r _ [27, 28, 29, 30, 31, 32, 33, 34, 35, 36, 37, 38, 39, 40, 41, 42, 43, 44, 45, 46, 9, 47, 11, 48, 49, 50, 51, 52, 53, 54, 55, 56, 57, 58, 59, 60, 61, 62, 63, 64, 65, 66, 67, 68, 69, 70, 71, 72, 73, 15, 74, 75, 76, 77, 78, 79, 17, 22, 104, 105, 106, 107, 108, 109, 110, 98, 99, 100, 101, 102, 103, 111, 112, 113, 114, 115, 116, 117, 118, 119, 95, 96, 97] (by decide +kernel) (by decide +kernel)
set_option maxRecDepth 20000 in
theorem gX11_addToCitation_X2_save : GoodIn wsX11_addToCitation (wsV RX11 104 RX2 yX2_save wsX2_save) := goodIn_app (goodIn_of _ (by decide +kernel)) ggX11_addToCitation_X2_save
set_option maxRecDepth 20000 in
theorem ggX11_addToCitation_X1_add : GoodIn wsX11_addToCitation wsX1_add := goodIn_r _ [83, 17, 22, 95, 96, 97] (by decide +kernel) (by decide +kernel)
set_option maxRecDepth 20000 in
theorem gX11_addToCitation_X1_add : GoodIn wsX11_addToCitation (wsV RX11 186 RX1 yX1_add wsX1_add) := goodIn_app (goodIn_of _ (by decide +kernel)) ggX11_addToCitation_X1_add
theorem dX11_addToCitation_0 : decode cX11_addToCitation 0 = .ok (.aload_n 0, 1) := by decide +kernel
theorem dX11_addToCitation_1 : decode cX11_addToCitation 1 = .ok (.getfield 43, 3) := by decide +kernel
theorem dX11_addToCitation_4 : decode cX11_addToCitation 4 = .ok (.iload_n 1, 1) := by decide +kernel
theorem dX11_addToCitation_5 : decode cX11_addToCitation 5 = .ok (.invokevirtual 133, 3) := by decide +kernel
theorem dX11_addToCitation_8 : decode cX11_addToCitation 8 = .ok (.ifCond .ne 5, 3) := by decide +kernel
theorem dX11_addToCitation_11 : decode cX11_addToCitation 11 = .ok (.iconst (-1), 1) := by decide +kernel
theorem dX11_addToCitation_12 : decode cX11_addToCitation 12 = .ok (.ireturn, 1) := by decide +kernel
theorem dX11_addToCitation_13 : decode cX11_addToCitation 13 = .ok (.aload_n 0, 1) := by decide +kernel
theorem dX11_addToCitation_14 : decode cX11_addToCitation 14 = .ok (.getfield 53, 3) := by decide +kernel
theorem dX11_addToCitation_17 : decode cX11_addToCitation 17 = .ok (.getfield 116, 3) := by decide +kernel
theorem dX11_addToCitation_20 : decode cX11_addToCitation 20 = .ok (.iconst 1, 1) := by decide +kernel
theorem dX11_addToCitation_21 : decode cX11_addToCitation 21 = .ok (.isub, 1) := by decide +kernel
theorem dX11_addToCitation_22 : decode cX11_addToCitation 22 = .ok (.istore_n 2, 1) := by decide +kernel
theorem dX11_addToCitation_23 : decode cX11_addToCitation 23 = .ok (.iload_n 2, 1) := by decide +kernel
theorem dX11_addToCitation_24 : decode cX11_addToCitation 24 = .ok (.ifCond .lt 15, 3) := by decide +kernel
theorem dX11_addToCitation_27 : decode cX11_addToCitation 27 = .ok (.aload_n 0, 1) := by decide +kernel
theorem dX11_addToCitation_28 : decode cX11_addToCitation 28 = .ok (.getfield 53, 3) := by decide +kernel
theorem dX11_addToCitation_31 : decode cX11_addToCitation 31 = .ok (.iload_n 2, 1) := by decide +kernel
theorem dX11_addToCitation_32 : decode cX11_addToCitation 32 = .ok (.iload_n 1, 1) := by decide +kernel
theorem dX11_addToCitation_33 : decode cX11_addToCitation 33 = .ok (.invokevirtual 179, 3) := by decide +kernel
theorem dX11_addToCitation_36 : decode cX11_addToCitation 36 = .ok (.ifCond .eq 6, 3) := by decide +kernel
theorem dX11_addToCitation_39 : decode cX11_addToCitation 39 = .ok (.bipush (-2), 2) := by decide +kernel
theorem dX11_addToCitation_41 : decode cX11_addToCitation 41 = .ok (.ireturn, 1) := by decide +kernel
theorem dX11_addToCitation_42 : decode cX11_addToCitation 42 = .ok (.aload_n 0, 1) := by decide +kernel
theorem dX11_addToCitation_43 : decode cX11_addToCitation 43 = .ok (.getfield 53, 3) := by decide +kernel
theorem dX11_addToCitation_46 : decode cX11_addToCitation 46 = .ok (.getfield 183, 3) := by decide +kernel
theorem dX11_addToCitation_49 : decode cX11_addToCitation 49 = .ok (.iload_n 2, 1) := by decide +kernel
theorem dX11_addToCitation_50 : decode cX11_addToCitation 50 = .ok (.iaload, 1) := by decide +kernel
theorem dX11_addToCitation_51 : decode cX11_addToCitation 51 = .ok (.iconst 5, 1) := by decide +kernel
theorem dX11_addToCitation_52 : decode cX11_addToCitation 52 = .ok (.if_icmp .lt 6, 3) := by decide +kernel
theorem dX11_addToCitation_55 : decode cX11_addToCitation 55 = .ok (.bipush (-3), 2) := by decide +kernel
theorem dX11_addToCitation_57 : decode cX11_addToCitation 57 = .ok (.ireturn, 1) := by decide +kernel
theorem dX11_addToCitation_58 : decode cX11_addToCitation 58 = .ok (.aload_n 0, 1) := by decide +kernel
theorem dX11_addToCitation_59 : decode cX11_addToCitation 59 = .ok (.getfield 59, 3) := by decide +kernel
theorem dX11_addToCitation_62 : decode cX11_addToCitation 62 = .ok (.invokevirtual 104, 3) := by decide +kernel
theorem dX11_addToCitation_65 : decode cX11_addToCitation 65 = .ok (.aload_n 0, 1) := by decide +kernel
theorem dX11_addToCitation_66 : decode cX11_addToCitation 66 = .ok (.getfield 53, 3) := by decide +kernel
theorem dX11_addToCitation_69 : decode cX11_addToCitation 69 = .ok (.iload_n 2, 1) := by decide +kernel
theorem dX11_addToCitation_70 : decode cX11_addToCitation 70 = .ok (.iload_n 1, 1) := by decide +kernel
theorem dX11_addToCitation_71 : decode cX11_addToCitation 71 = .ok (.invokevirtual 186, 3) := by decide +kernel
theorem dX11_addToCitation_74 : decode cX11_addToCitation 74 = .ok (.aload_n 0, 1) := by decide +kernel
theorem dX11_addToCitation_75 : decode cX11_addToCitation 75 = .ok (.getfield 53, 3) := by decide +kernel
theorem dX11_addToCitation_78 : decode cX11_addToCitation 78 = .ok (.getfield 183, 3) := by decide +kernel
theorem dX11_addToCitation_81 : decode cX11_addToCitation 81 = .ok (.iload_n 2, 1) := by decide +kernel
theorem dX11_addToCitation_82 : decode cX11_addToCitation 82 = .ok (.iaload, 1) := by decide +kernel
theorem dX11_addToCitation_83 : decode cX11_addToCitation 83 = .ok (.ireturn, 1) := by decide +kernel
set_option maxRecDepth 20000 in
theorem ggX11_removeCitation_X1_has : GoodIn wsX11_removeCitation wsX1_has := goodIn_r _ [8, 9, 85, 86, 87] (by decide +kernel) (by decide +kernel)
set_option maxRecDepth 20000 in
theorem gX11_removeCitation_X1_has : GoodIn wsX11_removeCitation (wsV RX11 190 RX1 yX1_has wsX1_has) := goodIn_app (goodIn_of _ (by decide +kernel)) ggX11_removeCitation_X1_has
set_option maxRecDepth 20000 in
theorem ggX11_removeCitation_X2_save : GoodIn wsX11_removeCitation wsX2_save := goodIn_r _ [14, 15, 16, 17, 18, 19, 20, 21, 22, 23, 24, 25, 26, 27, 28, 29, 30, 31, 32, 33, 34, 35, 36, 37, 38, 39, 40, 41, 42, 43, 44, 45, 46, 47, 48, 49, 50, 51, 52, 53, 54, 55, 56, 57, 58, 59, 60, 61, 62, 7, 63, 9, 64, 65, 66, 67, 68, 69, 88, 89, 90, 91, 92, 93, 94, 95, 96, 97, 98, 99, 100, 101, 102, 103, 104, 105, 106, 107, 108, 109, 85, 86, 87] (by decide +kernel) (by decide +kernel)
set_option maxRecDepth 20000 in
theorem gX11_removeCitation_X2_save : GoodIn wsX11_removeCitation (wsV RX11 104 RX2 yX2_save wsX2_save) := goodIn_app (goodIn_of _ (by decide +kernel)) ggX11_removeCitation_X2_save
set_option maxRecDepth 20000 in
theorem ggX11_removeCitation_X1_removeAt : GoodIn wsX11_removeCitation wsX1_removeAt := goodIn_r _ [73, 9, 64, 65, 66, 7, 67, 68, 69, 85, 86, 87] (by decide +kernel) (by decide +kernel)
set_option maxRecDepth 20000 in
theorem gX11_removeCitation_X1_removeAt : GoodIn wsX11_removeCitation (wsV RX11 191 RX1 yX1_removeAt wsX1_removeAt) := goodIn_app (goodIn_of _ (by decide +kernel)) ggX11_removeCitation_X1_removeAt
theorem dX11_removeCitation_0 : decode cX11_removeCitation 0 = .ok (.aload_n 0, 1) := by decide +kernel
theorem dX11_removeCitation_1 : decode cX11_removeCitation 1 = .ok (.getfield 53, 3) := by decide +kernel
theorem dX11_removeCitation_4 : decode cX11_removeCitation 4 = .ok (.iload_n 1, 1) := by decide +kernel
theorem dX11_removeCitation_5 : decode cX11_removeCitation 5 = .ok (.invokevirtual 190, 3) := by decide +kernel
theorem dX11_removeCitation_8 : decode cX11_removeCitation 8 = .ok (.ifCond .ne 5, 3) := by decide +kernel
theorem dX11_removeCitation_11 : decode cX11_removeCitation 11 = .ok (.iconst (-1), 1) := by decide +kernel
theorem dX11_removeCitation_12 : decode cX11_removeCitation 12 = .ok (.ireturn, 1) := by decide +kernel
theorem dX11_removeCitation_13 : decode cX11_removeCitation 13 = .ok (.aload_n 0, 1) := by decide +kernel
theorem dX11_removeCitation_14 : decode cX11_removeCitation 14 = .ok (.getfield 59, 3) := by decide +kernel
theorem dX11_removeCitation_17 : decode cX11_removeCitation 17 = .ok (.invokevirtual 104, 3) := by decide +kernel
theorem dX11_removeCitation_20 : decode cX11_removeCitation 20 = .ok (.aload_n 0, 1) := by decide +kernel
theorem dX11_removeCitation_21 : decode cX11_removeCitation 21 = .ok (.getfield 53, 3) := by decide +kernel
theorem dX11_removeCitation_24 : decode cX11_removeCitation 24 = .ok (.getfield 183, 3) := by decide +kernel
theorem dX11_removeCitation_27 : decode cX11_removeCitation 27 = .ok (.iload_n 1, 1) := by decide +kernel
theorem dX11_removeCitation_28 : decode cX11_removeCitation 28 = .ok (.iaload, 1) := by decide +kernel
theorem dX11_removeCitation_29 : decode cX11_removeCitation 29 = .ok (.istore_n 2, 1) := by decide +kernel
theorem dX11_removeCitation_30 : decode cX11_removeCitation 30 = .ok (.aload_n 0, 1) := by decide +kernel
theorem dX11_removeCitation_31 : decode cX11_removeCitation 31 = .ok (.getfield 53, 3) := by decide +kernel
theorem dX11_removeCitation_34 : decode cX11_removeCitation 34 = .ok (.iload_n 1, 1) := by decide +kernel
theorem dX11_removeCitation_35 : decode cX11_removeCitation 35 = .ok (.invokevirtual 191, 3) := by decide +kernel
theorem dX11_removeCitation_38 : decode cX11_removeCitation 38 = .ok (.iload_n 2, 1) := by decide +kernel
theorem dX11_removeCitation_39 : decode cX11_removeCitation 39 = .ok (.ireturn, 1) := by decide +kernel
set_option maxRecDepth 20000 in
theorem ggX11_undo_X2_restore : GoodIn wsX11_undo wsX2_restore := goodIn_r _ [7, 8, 9, 10, 11, 12, 13, 14, 15, 16, 17, 18, 19, 20, 21, 22, 23, 24, 25, 26, 27, 28, 29, 30, 31, 32, 33, 34, 35, 36, 37, 38, 39, 40, 41, 42, 43, 44, 45, 46, 47, 48, 49, 50, 51, 52, 53, 54, 55, 56, 57, 58, 59, 60, 72, 73, 74, 75, 76, 77, 78, 79, 80, 81, 82, 83, 84, 85, 86, 87, 88, 89, 90, 91, 92, 93, 94, 95, 96] (by decide +kernel) (by decide +kernel)
set_option maxRecDepth 20000 in
theorem gX11_undo_X2_restore : GoodIn wsX11_undo (wsV RX11 193 RX2 yX2_restore wsX2_restore) := goodIn_app (goodIn_of _ (by decide +kernel)) ggX11_undo_X2_restore
theorem dX11_undo_0 : decode cX11_undo 0 = .ok (.aload_n 0, 1) := by decide +kernel
theorem dX11_undo_1 : decode cX11_undo 1 = .ok (.getfield 59, 3) := by decide +kernel
theorem dX11_undo_4 : decode cX11_undo 4 = .ok (.getfield 192, 3) := by decide +kernel
theorem dX11_undo_7 : decode cX11_undo 7 = .ok (.ifCond .ne 6, 3) := by decide +kernel
theorem dX11_undo_10 : decode cX11_undo 10 = .ok (.bipush (-2), 2) := by decide +kernel
theorem dX11_undo_12 : decode cX11_undo 12 = .ok (.ireturn, 1) := by decide +kernel
theorem dX11_undo_13 : decode cX11_undo 13 = .ok (.aload_n 0, 1) := by decide +kernel
theorem dX11_undo_14 : decode cX11_undo 14 = .ok (.getfield 59, 3) := by decide +kernel
theorem dX11_undo_17 : decode cX11_undo 17 = .ok (.invokevirtual 193, 3) := by decide +kernel
theorem dX11_undo_20 : decode cX11_undo 20 = .ok (.aload_n 0, 1) := by decide +kernel
theorem dX11_undo_21 : decode cX11_undo 21 = .ok (.getfield 59, 3) := by decide +kernel
theorem dX11_undo_24 : decode cX11_undo 24 = .ok (.getfield 192, 3) := by decide +kernel
theorem dX11_undo_27 : decode cX11_undo 27 = .ok (.ireturn, 1) := by decide +kernel
theorem dX11_workCount_0 : decode cX11_workCount 0 = .ok (.aload_n 0, 1) := by decide +kernel
theorem dX11_workCount_1 : decode cX11_workCount 1 = .ok (.getfield 43, 3) := by decide +kernel
theorem dX11_workCount_4 : decode cX11_workCount 4 = .ok (.getfield 121, 3) := by decide +kernel
theorem dX11_workCount_7 : decode cX11_workCount 7 = .ok (.ireturn, 1) := by decide +kernel
set_option maxRecDepth 20000 in
theorem ggX11_authorCount_X9_has : GoodIn wsX11_authorCount wsX9_has := goodIn_r _ [7, 8, 20, 21, 22, 23, 24, 25] (by decide +kernel) (by decide +kernel)
set_option maxRecDepth 20000 in
theorem gX11_authorCount_X9_has : GoodIn wsX11_authorCount (wsV RX11 133 RX9 yX9_has wsX9_has) := goodIn_app (goodIn_of _ (by decide +kernel)) ggX11_authorCount_X9_has
theorem dX11_authorCount_0 : decode cX11_authorCount 0 = .ok (.aload_n 0, 1) := by decide +kernel
