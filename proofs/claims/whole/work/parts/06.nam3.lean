set_option maxRecDepth 20000 in
theorem gX12_citationSize_X12_cites : GoodIn wsX12_citationSize (wsV RX12 119 RX12 yX12_cites wsX12_cites) := goodIn_app (goodIn_of _ (by decide +kernel)) ggX12_citationSize_X12_cites
theorem dX12_citationSize_0 : decode cX12_citationSize 0 = .ok (.aload_n 0, 1) := by decide +kernel
theorem dX12_citationSize_1 : decode cX12_citationSize 1 = .ok (.iload_n 1, 1) := by decide +kernel
theorem dX12_citationSize_2 : decode cX12_citationSize 2 = .ok (.invokevirtual 143, 3) := by decide +kernel
theorem dX12_citationSize_5 : decode cX12_citationSize 5 = .ok (.ifCond .eq 11, 3) := by decide +kernel
theorem dX12_citationSize_8 : decode cX12_citationSize 8 = .ok (.aload_n 0, 1) := by decide +kernel
theorem dX12_citationSize_9 : decode cX12_citationSize 9 = .ok (.iload_n 1, 1) := by decide +kernel
theorem dX12_citationSize_10 : decode cX12_citationSize 10 = .ok (.invokevirtual 119, 3) := by decide +kernel
theorem dX12_citationSize_13 : decode cX12_citationSize 13 = .ok (.goto 4, 3) := by decide +kernel
theorem dX12_citationSize_16 : decode cX12_citationSize 16 = .ok (.iconst (-1), 1) := by decide +kernel
theorem dX12_citationSize_17 : decode cX12_citationSize 17 = .ok (.ireturn, 1) := by decide +kernel
set_option maxRecDepth 20000 in
theorem ggX12_againstAuthors_X12_authors : GoodIn wsX12_againstAuthors wsX12_authors := goodIn_r _ [5, 6, 11, 12, 13, 14, 15, 16, 17, 18, 19, 20, 21, 22, 23, 24, 25, 26, 27, 28, 29] (by decide +kernel) (by decide +kernel)
set_option maxRecDepth 20000 in
theorem gX12_againstAuthors_X12_authors : GoodIn wsX12_againstAuthors (wsV RX12 146 RX12 yX12_authors wsX12_authors) := goodIn_app (goodIn_of _ (by decide +kernel)) ggX12_againstAuthors_X12_authors
set_option maxRecDepth 20000 in
theorem ggX12_againstAuthors_X12_author : GoodIn wsX12_againstAuthors wsX12_author := goodIn_r _ [10, 6, 11, 12, 13, 14, 15, 16, 17, 18, 19, 20, 21, 22, 23, 24, 25, 26, 27, 28, 29] (by decide +kernel) (by decide +kernel)
set_option maxRecDepth 20000 in
theorem gX12_againstAuthors_X12_author : GoodIn wsX12_againstAuthors (wsV RX12 149 RX12 yX12_author wsX12_author) := goodIn_app (goodIn_of _ (by decide +kernel)) ggX12_againstAuthors_X12_author
theorem dX12_againstAuthors_0 : decode cX12_againstAuthors 0 = .ok (.aload_n 0, 1) := by decide +kernel
theorem dX12_againstAuthors_1 : decode cX12_againstAuthors 1 = .ok (.iload_n 1, 1) := by decide +kernel
theorem dX12_againstAuthors_2 : decode cX12_againstAuthors 2 = .ok (.invokevirtual 146, 3) := by decide +kernel
theorem dX12_againstAuthors_5 : decode cX12_againstAuthors 5 = .ok (.aload_n 0, 1) := by decide +kernel
theorem dX12_againstAuthors_6 : decode cX12_againstAuthors 6 = .ok (.iload_n 2, 1) := by decide +kernel
theorem dX12_againstAuthors_7 : decode cX12_againstAuthors 7 = .ok (.invokevirtual 146, 3) := by decide +kernel
theorem dX12_againstAuthors_10 : decode cX12_againstAuthors 10 = .ok (.if_icmp .ge 11, 3) := by decide +kernel
theorem dX12_againstAuthors_13 : decode cX12_againstAuthors 13 = .ok (.aload_n 0, 1) := by decide +kernel
theorem dX12_againstAuthors_14 : decode cX12_againstAuthors 14 = .ok (.iload_n 1, 1) := by decide +kernel
theorem dX12_againstAuthors_15 : decode cX12_againstAuthors 15 = .ok (.invokevirtual 146, 3) := by decide +kernel
theorem dX12_againstAuthors_18 : decode cX12_againstAuthors 18 = .ok (.goto 8, 3) := by decide +kernel
theorem dX12_againstAuthors_21 : decode cX12_againstAuthors 21 = .ok (.aload_n 0, 1) := by decide +kernel
theorem dX12_againstAuthors_22 : decode cX12_againstAuthors 22 = .ok (.iload_n 2, 1) := by decide +kernel
theorem dX12_againstAuthors_23 : decode cX12_againstAuthors 23 = .ok (.invokevirtual 146, 3) := by decide +kernel
theorem dX12_againstAuthors_26 : decode cX12_againstAuthors 26 = .ok (.istore_n 3, 1) := by decide +kernel
theorem dX12_againstAuthors_27 : decode cX12_againstAuthors 27 = .ok (.iconst 0, 1) := by decide +kernel
theorem dX12_againstAuthors_28 : decode cX12_againstAuthors 28 = .ok (.istore 4, 2) := by decide +kernel
theorem dX12_againstAuthors_30 : decode cX12_againstAuthors 30 = .ok (.iload 4, 2) := by decide +kernel
theorem dX12_againstAuthors_32 : decode cX12_againstAuthors 32 = .ok (.iload_n 3, 1) := by decide +kernel
theorem dX12_againstAuthors_33 : decode cX12_againstAuthors 33 = .ok (.if_icmp .ge 42, 3) := by decide +kernel
theorem dX12_againstAuthors_36 : decode cX12_againstAuthors 36 = .ok (.aload_n 0, 1) := by decide +kernel
theorem dX12_againstAuthors_37 : decode cX12_againstAuthors 37 = .ok (.iload_n 1, 1) := by decide +kernel
theorem dX12_againstAuthors_38 : decode cX12_againstAuthors 38 = .ok (.iload 4, 2) := by decide +kernel
theorem dX12_againstAuthors_40 : decode cX12_againstAuthors 40 = .ok (.invokevirtual 149, 3) := by decide +kernel
theorem dX12_againstAuthors_43 : decode cX12_againstAuthors 43 = .ok (.aload_n 0, 1) := by decide +kernel
theorem dX12_againstAuthors_44 : decode cX12_againstAuthors 44 = .ok (.iload_n 2, 1) := by decide +kernel
theorem dX12_againstAuthors_45 : decode cX12_againstAuthors 45 = .ok (.iload 4, 2) := by decide +kernel
theorem dX12_againstAuthors_47 : decode cX12_againstAuthors 47 = .ok (.invokevirtual 149, 3) := by decide +kernel
theorem dX12_againstAuthors_50 : decode cX12_againstAuthors 50 = .ok (.if_icmp .eq 19, 3) := by decide +kernel
theorem dX12_againstAuthors_53 : decode cX12_againstAuthors 53 = .ok (.aload_n 0, 1) := by decide +kernel
theorem dX12_againstAuthors_54 : decode cX12_againstAuthors 54 = .ok (.iload_n 1, 1) := by decide +kernel
theorem dX12_againstAuthors_55 : decode cX12_againstAuthors 55 = .ok (.iload 4, 2) := by decide +kernel
theorem dX12_againstAuthors_57 : decode cX12_againstAuthors 57 = .ok (.invokevirtual 149, 3) := by decide +kernel
theorem dX12_againstAuthors_60 : decode cX12_againstAuthors 60 = .ok (.aload_n 0, 1) := by decide +kernel
theorem dX12_againstAuthors_61 : decode cX12_againstAuthors 61 = .ok (.iload_n 2, 1) := by decide +kernel
theorem dX12_againstAuthors_62 : decode cX12_againstAuthors 62 = .ok (.iload 4, 2) := by decide +kernel
theorem dX12_againstAuthors_64 : decode cX12_againstAuthors 64 = .ok (.invokevirtual 149, 3) := by decide +kernel
theorem dX12_againstAuthors_67 : decode cX12_againstAuthors 67 = .ok (.isub, 1) := by decide +kernel
theorem dX12_againstAuthors_68 : decode cX12_againstAuthors 68 = .ok (.ireturn, 1) := by decide +kernel
theorem dX12_againstAuthors_69 : decode cX12_againstAuthors 69 = .ok (.iinc 4 1, 3) := by decide +kernel
theorem dX12_againstAuthors_72 : decode cX12_againstAuthors 72 = .ok (.goto (-42), 3) := by decide +kernel
theorem dX12_againstAuthors_75 : decode cX12_againstAuthors 75 = .ok (.aload_n 0, 1) := by decide +kernel
theorem dX12_againstAuthors_76 : decode cX12_againstAuthors 76 = .ok (.iload_n 1, 1) := by decide +kernel
theorem dX12_againstAuthors_77 : decode cX12_againstAuthors 77 = .ok (.invokevirtual 146, 3) := by decide +kernel
theorem dX12_againstAuthors_80 : decode cX12_againstAuthors 80 = .ok (.aload_n 0, 1) := by decide +kernel
theorem dX12_againstAuthors_81 : decode cX12_againstAuthors 81 = .ok (.iload_n 2, 1) := by decide +kernel
theorem dX12_againstAuthors_82 : decode cX12_againstAuthors 82 = .ok (.invokevirtual 146, 3) := by decide +kernel
theorem dX12_againstAuthors_85 : decode cX12_againstAuthors 85 = .ok (.isub, 1) := by decide +kernel
theorem dX12_againstAuthors_86 : decode cX12_againstAuthors 86 = .ok (.ireturn, 1) := by decide +kernel
set_option maxRecDepth 20000 in
theorem ggX12_against_X12_againstAuthors : GoodIn wsX12_against wsX12_againstAuthors := goodIn_r _ [6, 7, 8, 9, 5, 10, 1, 11, 12, 13, 14, 23, 24, 25, 26, 27, 28, 29, 30, 31, 32, 33, 34, 35, 36, 37, 38, 39, 40, 41] (by decide +kernel) (by decide +kernel)
set_option maxRecDepth 20000 in
theorem gX12_against_X12_againstAuthors : GoodIn wsX12_against (wsV RX12 152 RX12 yX12_againstAuthors wsX12_againstAuthors) := goodIn_app (goodIn_of _ (by decide +kernel)) ggX12_against_X12_againstAuthors
set_option maxRecDepth 20000 in
theorem ggX12_against_X12_year : GoodIn wsX12_against wsX12_year := goodIn_r _ [18, 1, 23, 24, 25, 26, 27, 28, 29, 30, 31, 32, 33, 34, 35, 36, 37, 38, 39, 40, 41] (by decide +kernel) (by decide +kernel)
set_option maxRecDepth 20000 in
theorem gX12_against_X12_year : GoodIn wsX12_against (wsV RX12 155 RX12 yX12_year wsX12_year) := goodIn_app (goodIn_of _ (by decide +kernel)) ggX12_against_X12_year
set_option maxRecDepth 20000 in
theorem ggX12_against_X12_title : GoodIn wsX12_against wsX12_title := goodIn_r _ [22, 1, 23, 24, 25, 26, 27, 28, 29, 30, 31, 32, 33, 34, 35, 36, 37, 38, 39, 40, 41] (by decide +kernel) (by decide +kernel)
set_option maxRecDepth 20000 in
theorem gX12_against_X12_title : GoodIn wsX12_against (wsV RX12 158 RX12 yX12_title wsX12_title) := goodIn_app (goodIn_of _ (by decide +kernel)) ggX12_against_X12_title
theorem dX12_against_0 : decode cX12_against 0 = .ok (.iconst 0, 1) := by decide +kernel
theorem dX12_against_1 : decode cX12_against 1 = .ok (.istore_n 3, 1) := by decide +kernel
theorem dX12_against_2 : decode cX12_against 2 = .ok (.iload_n 3, 1) := by decide +kernel
theorem dX12_against_3 : decode cX12_against 3 = .ok (.iconst 3, 1) := by decide +kernel
theorem dX12_against_4 : decode cX12_against 4 = .ok (.if_icmp .ge 111, 3) := by decide +kernel
theorem dX12_against_7 : decode cX12_against 7 = .ok (.aload_n 0, 1) := by decide +kernel
theorem dX12_against_8 : decode cX12_against 8 = .ok (.getfield 7, 3) := by decide +kernel
theorem dX12_against_11 : decode cX12_against 11 = .ok (.bipush 64, 2) := by decide +kernel
theorem dX12_against_13 : decode cX12_against 13 = .ok (.iconst 2, 1) := by decide +kernel
theorem dX12_against_14 : decode cX12_against 14 = .ok (.iload_n 3, 1) := by decide +kernel
theorem dX12_against_15 : decode cX12_against 15 = .ok (.imul, 1) := by decide +kernel
theorem dX12_against_16 : decode cX12_against 16 = .ok (.iadd, 1) := by decide +kernel
theorem dX12_against_17 : decode cX12_against 17 = .ok (.iaload, 1) := by decide +kernel
theorem dX12_against_18 : decode cX12_against 18 = .ok (.istore 4, 2) := by decide +kernel
theorem dX12_against_20 : decode cX12_against 20 = .ok (.iload 4, 2) := by decide +kernel
theorem dX12_against_22 : decode cX12_against 22 = .ok (.iconst 1, 1) := by decide +kernel
theorem dX12_against_23 : decode cX12_against 23 = .ok (.if_icmp .ne 12, 3) := by decide +kernel
theorem dX12_against_26 : decode cX12_against 26 = .ok (.aload_n 0, 1) := by decide +kernel
theorem dX12_against_27 : decode cX12_against 27 = .ok (.iload_n 1, 1) := by decide +kernel
theorem dX12_against_28 : decode cX12_against 28 = .ok (.iload_n 2, 1) := by decide +kernel
theorem dX12_against_29 : decode cX12_against 29 = .ok (.invokevirtual 152, 3) := by decide +kernel
theorem dX12_against_32 : decode cX12_against 32 = .ok (.goto 44, 3) := by decide +kernel
theorem dX12_against_35 : decode cX12_against 35 = .ok (.iload 4, 2) := by decide +kernel
theorem dX12_against_37 : decode cX12_against 37 = .ok (.iconst 2, 1) := by decide +kernel
theorem dX12_against_38 : decode cX12_against 38 = .ok (.if_icmp .ne 17, 3) := by decide +kernel
theorem dX12_against_41 : decode cX12_against 41 = .ok (.aload_n 0, 1) := by decide +kernel
theorem dX12_against_42 : decode cX12_against 42 = .ok (.iload_n 1, 1) := by decide +kernel
theorem dX12_against_43 : decode cX12_against 43 = .ok (.invokevirtual 155, 3) := by decide +kernel
theorem dX12_against_46 : decode cX12_against 46 = .ok (.aload_n 0, 1) := by decide +kernel
theorem dX12_against_47 : decode cX12_against 47 = .ok (.iload_n 2, 1) := by decide +kernel
theorem dX12_against_48 : decode cX12_against 48 = .ok (.invokevirtual 155, 3) := by decide +kernel
theorem dX12_against_51 : decode cX12_against 51 = .ok (.isub, 1) := by decide +kernel
theorem dX12_against_52 : decode cX12_against 52 = .ok (.goto 24, 3) := by decide +kernel
theorem dX12_against_55 : decode cX12_against 55 = .ok (.iload 4, 2) := by decide +kernel
theorem dX12_against_57 : decode cX12_against 57 = .ok (.iconst 3, 1) := by decide +kernel
theorem dX12_against_58 : decode cX12_against 58 = .ok (.if_icmp .ne 17, 3) := by decide +kernel
theorem dX12_against_61 : decode cX12_against 61 = .ok (.aload_n 0, 1) := by decide +kernel
theorem dX12_against_62 : decode cX12_against 62 = .ok (.iload_n 1, 1) := by decide +kernel
theorem dX12_against_63 : decode cX12_against 63 = .ok (.invokevirtual 158, 3) := by decide +kernel
theorem dX12_against_66 : decode cX12_against 66 = .ok (.aload_n 0, 1) := by decide +kernel
theorem dX12_against_67 : decode cX12_against 67 = .ok (.iload_n 2, 1) := by decide +kernel
theorem dX12_against_68 : decode cX12_against 68 = .ok (.invokevirtual 158, 3) := by decide +kernel
theorem dX12_against_71 : decode cX12_against 71 = .ok (.isub, 1) := by decide +kernel
theorem dX12_against_72 : decode cX12_against 72 = .ok (.goto 4, 3) := by decide +kernel
theorem dX12_against_75 : decode cX12_against 75 = .ok (.iconst 0, 1) := by decide +kernel
theorem dX12_against_76 : decode cX12_against 76 = .ok (.istore 5, 2) := by decide +kernel
theorem dX12_against_78 : decode cX12_against 78 = .ok (.iload 5, 2) := by decide +kernel
theorem dX12_against_80 : decode cX12_against 80 = .ok (.ifCond .eq 29, 3) := by decide +kernel
theorem dX12_against_83 : decode cX12_against 83 = .ok (.aload_n 0, 1) := by decide +kernel
theorem dX12_against_84 : decode cX12_against 84 = .ok (.getfield 7, 3) := by decide +kernel
theorem dX12_against_87 : decode cX12_against 87 = .ok (.bipush 64, 2) := by decide +kernel
theorem dX12_against_89 : decode cX12_against 89 = .ok (.iconst 2, 1) := by decide +kernel
theorem dX12_against_90 : decode cX12_against 90 = .ok (.iload_n 3, 1) := by decide +kernel
theorem dX12_against_91 : decode cX12_against 91 = .ok (.imul, 1) := by decide +kernel
theorem dX12_against_92 : decode cX12_against 92 = .ok (.iadd, 1) := by decide +kernel
theorem dX12_against_93 : decode cX12_against 93 = .ok (.iconst 1, 1) := by decide +kernel
theorem dX12_against_94 : decode cX12_against 94 = .ok (.iadd, 1) := by decide +kernel
theorem dX12_against_95 : decode cX12_against 95 = .ok (.iaload, 1) := by decide +kernel
theorem dX12_against_96 : decode cX12_against 96 = .ok (.iconst 1, 1) := by decide +kernel
theorem dX12_against_97 : decode cX12_against 97 = .ok (.if_icmp .ne 9, 3) := by decide +kernel
theorem dX12_against_100 : decode cX12_against 100 = .ok (.iload 5, 2) := by decide +kernel
theorem dX12_against_102 : decode cX12_against 102 = .ok (.ineg, 1) := by decide +kernel
theorem dX12_against_103 : decode cX12_against 103 = .ok (.goto 5, 3) := by decide +kernel
theorem dX12_against_106 : decode cX12_against 106 = .ok (.iload 5, 2) := by decide +kernel
theorem dX12_against_108 : decode cX12_against 108 = .ok (.ireturn, 1) := by decide +kernel
theorem dX12_against_109 : decode cX12_against 109 = .ok (.iinc 3 1, 3) := by decide +kernel
theorem dX12_against_112 : decode cX12_against 112 = .ok (.goto (-110), 3) := by decide +kernel
theorem dX12_against_115 : decode cX12_against 115 = .ok (.iload_n 1, 1) := by decide +kernel
theorem dX12_against_116 : decode cX12_against 116 = .ok (.iload_n 2, 1) := by decide +kernel
theorem dX12_against_117 : decode cX12_against 117 = .ok (.isub, 1) := by decide +kernel
theorem dX12_against_118 : decode cX12_against 118 = .ok (.ireturn, 1) := by decide +kernel
set_option maxRecDepth 20000 in
theorem ggX12_layOrder_X12_against : GoodIn wsX12_layOrder wsX12_against := goodIn_r _ [7, 1, 8, 9, 10, 6, 11, 12, 13, 14, 15, 16, 17, 18, 19, 20, 21, 22, 23, 24, 25, 26, 27, 28, 29, 30, 31, 32, 33, 34, 35, 36, 37, 38, 39, 40, 41, 42, 43, 44, 45, 46] (by decide +kernel) (by decide +kernel)
set_option maxRecDepth 20000 in
theorem gX12_layOrder_X12_against : GoodIn wsX12_layOrder (wsV RX12 161 RX12 yX12_against wsX12_against) := goodIn_app (goodIn_of _ (by decide +kernel)) ggX12_layOrder_X12_against
theorem dX12_layOrder_0 : decode cX12_layOrder 0 = .ok (.iconst 0, 1) := by decide +kernel
theorem dX12_layOrder_1 : decode cX12_layOrder 1 = .ok (.istore_n 1, 1) := by decide +kernel
theorem dX12_layOrder_2 : decode cX12_layOrder 2 = .ok (.iload_n 1, 1) := by decide +kernel
theorem dX12_layOrder_3 : decode cX12_layOrder 3 = .ok (.aload_n 0, 1) := by decide +kernel
theorem dX12_layOrder_4 : decode cX12_layOrder 4 = .ok (.getfield 7, 3) := by decide +kernel
theorem dX12_layOrder_7 : decode cX12_layOrder 7 = .ok (.iconst 0, 1) := by decide +kernel
theorem dX12_layOrder_8 : decode cX12_layOrder 8 = .ok (.iaload, 1) := by decide +kernel
theorem dX12_layOrder_9 : decode cX12_layOrder 9 = .ok (.if_icmp .ge 58, 3) := by decide +kernel
theorem dX12_layOrder_12 : decode cX12_layOrder 12 = .ok (.iconst 0, 1) := by decide +kernel
theorem dX12_layOrder_13 : decode cX12_layOrder 13 = .ok (.istore_n 2, 1) := by decide +kernel
theorem dX12_layOrder_14 : decode cX12_layOrder 14 = .ok (.iconst 0, 1) := by decide +kernel
theorem dX12_layOrder_15 : decode cX12_layOrder 15 = .ok (.istore_n 3, 1) := by decide +kernel
theorem dX12_layOrder_16 : decode cX12_layOrder 16 = .ok (.iload_n 3, 1) := by decide +kernel
theorem dX12_layOrder_17 : decode cX12_layOrder 17 = .ok (.aload_n 0, 1) := by decide +kernel
theorem dX12_layOrder_18 : decode cX12_layOrder 18 = .ok (.getfield 7, 3) := by decide +kernel
theorem dX12_layOrder_21 : decode cX12_layOrder 21 = .ok (.iconst 0, 1) := by decide +kernel
theorem dX12_layOrder_22 : decode cX12_layOrder 22 = .ok (.iaload, 1) := by decide +kernel
theorem dX12_layOrder_23 : decode cX12_layOrder 23 = .ok (.if_icmp .ge 31, 3) := by decide +kernel
theorem dX12_layOrder_26 : decode cX12_layOrder 26 = .ok (.iload_n 2, 1) := by decide +kernel
theorem dX12_layOrder_27 : decode cX12_layOrder 27 = .ok (.iload_n 3, 1) := by decide +kernel
theorem dX12_layOrder_28 : decode cX12_layOrder 28 = .ok (.iload_n 1, 1) := by decide +kernel
theorem dX12_layOrder_29 : decode cX12_layOrder 29 = .ok (.if_icmp .eq 16, 3) := by decide +kernel
theorem dX12_layOrder_32 : decode cX12_layOrder 32 = .ok (.aload_n 0, 1) := by decide +kernel
theorem dX12_layOrder_33 : decode cX12_layOrder 33 = .ok (.iload_n 3, 1) := by decide +kernel
theorem dX12_layOrder_34 : decode cX12_layOrder 34 = .ok (.iload_n 1, 1) := by decide +kernel
theorem dX12_layOrder_35 : decode cX12_layOrder 35 = .ok (.invokevirtual 161, 3) := by decide +kernel
theorem dX12_layOrder_38 : decode cX12_layOrder 38 = .ok (.ifCond .ge 7, 3) := by decide +kernel
theorem dX12_layOrder_41 : decode cX12_layOrder 41 = .ok (.iconst 1, 1) := by decide +kernel
theorem dX12_layOrder_42 : decode cX12_layOrder 42 = .ok (.goto 4, 3) := by decide +kernel
theorem dX12_layOrder_45 : decode cX12_layOrder 45 = .ok (.iconst 0, 1) := by decide +kernel
theorem dX12_layOrder_46 : decode cX12_layOrder 46 = .ok (.iadd, 1) := by decide +kernel
theorem dX12_layOrder_47 : decode cX12_layOrder 47 = .ok (.istore_n 2, 1) := by decide +kernel
theorem dX12_layOrder_48 : decode cX12_layOrder 48 = .ok (.iinc 3 1, 3) := by decide +kernel
theorem dX12_layOrder_51 : decode cX12_layOrder 51 = .ok (.goto (-35), 3) := by decide +kernel
theorem dX12_layOrder_54 : decode cX12_layOrder 54 = .ok (.aload_n 0, 1) := by decide +kernel
theorem dX12_layOrder_55 : decode cX12_layOrder 55 = .ok (.getfield 22, 3) := by decide +kernel
theorem dX12_layOrder_58 : decode cX12_layOrder 58 = .ok (.iload_n 2, 1) := by decide +kernel
theorem dX12_layOrder_59 : decode cX12_layOrder 59 = .ok (.iload_n 1, 1) := by decide +kernel
theorem dX12_layOrder_60 : decode cX12_layOrder 60 = .ok (.iastore, 1) := by decide +kernel
theorem dX12_layOrder_61 : decode cX12_layOrder 61 = .ok (.iinc 1 1, 3) := by decide +kernel
theorem dX12_layOrder_64 : decode cX12_layOrder 64 = .ok (.goto (-62), 3) := by decide +kernel
theorem dX12_layOrder_67 : decode cX12_layOrder 67 = .ok (.return_, 1) := by decide +kernel
set_option maxRecDepth 20000 in
theorem ggX12_layNumbers_X12_layOrder : GoodIn wsX12_layNumbers wsX12_layOrder := goodIn_r _ [8, 1, 3, 9, 10, 11, 7, 12, 13, 14, 15, 16, 17, 18, 19, 20, 21, 22, 23, 24, 25, 26, 27, 28, 29, 30, 31, 32, 41, 42, 43, 44, 45, 46, 47, 48, 49, 50, 51, 52, 53, 54, 55, 56, 57, 58, 59] (by decide +kernel) (by decide +kernel)
set_option maxRecDepth 20000 in
theorem gX12_layNumbers_X12_layOrder : GoodIn wsX12_layNumbers (wsV RX12 164 RX12 yX12_layOrder wsX12_layOrder) := goodIn_app (goodIn_of _ (by decide +kernel)) ggX12_layNumbers_X12_layOrder
set_option maxRecDepth 20000 in
theorem ggX12_layNumbers_X12_cites : GoodIn wsX12_layNumbers wsX12_cites := goodIn_r _ [36, 1, 41, 42, 43, 44, 45, 46, 47, 48, 49, 50, 51, 52, 53, 54, 55, 56, 57, 58, 59] (by decide +kernel) (by decide +kernel)
set_option maxRecDepth 20000 in
theorem gX12_layNumbers_X12_cites : GoodIn wsX12_layNumbers (wsV RX12 119 RX12 yX12_cites wsX12_cites) := goodIn_app (goodIn_of _ (by decide +kernel)) ggX12_layNumbers_X12_cites
set_option maxRecDepth 20000 in
theorem ggX12_layNumbers_X12_cited : GoodIn wsX12_layNumbers wsX12_cited := goodIn_r _ [40, 1, 41, 42, 43, 44, 45, 46, 47, 48, 49, 50, 51, 52, 53, 54, 55, 56, 57, 58, 59] (by decide +kernel) (by decide +kernel)
set_option maxRecDepth 20000 in
theorem gX12_layNumbers_X12_cited : GoodIn wsX12_layNumbers (wsV RX12 122 RX12 yX12_cited wsX12_cited) := goodIn_app (goodIn_of _ (by decide +kernel)) ggX12_layNumbers_X12_cited
theorem dX12_layNumbers_0 : decode cX12_layNumbers 0 = .ok (.aload_n 0, 1) := by decide +kernel
theorem dX12_layNumbers_1 : decode cX12_layNumbers 1 = .ok (.invokevirtual 164, 3) := by decide +kernel
theorem dX12_layNumbers_4 : decode cX12_layNumbers 4 = .ok (.iconst 0, 1) := by decide +kernel
theorem dX12_layNumbers_5 : decode cX12_layNumbers 5 = .ok (.istore_n 1, 1) := by decide +kernel
theorem dX12_layNumbers_6 : decode cX12_layNumbers 6 = .ok (.iconst 0, 1) := by decide +kernel
theorem dX12_layNumbers_7 : decode cX12_layNumbers 7 = .ok (.istore_n 2, 1) := by decide +kernel
theorem dX12_layNumbers_8 : decode cX12_layNumbers 8 = .ok (.iconst 0, 1) := by decide +kernel
theorem dX12_layNumbers_9 : decode cX12_layNumbers 9 = .ok (.istore_n 3, 1) := by decide +kernel
theorem dX12_layNumbers_10 : decode cX12_layNumbers 10 = .ok (.iload_n 3, 1) := by decide +kernel
theorem dX12_layNumbers_11 : decode cX12_layNumbers 11 = .ok (.aload_n 0, 1) := by decide +kernel
theorem dX12_layNumbers_12 : decode cX12_layNumbers 12 = .ok (.getfield 7, 3) := by decide +kernel
theorem dX12_layNumbers_15 : decode cX12_layNumbers 15 = .ok (.bipush 70, 2) := by decide +kernel
theorem dX12_layNumbers_17 : decode cX12_layNumbers 17 = .ok (.iaload, 1) := by decide +kernel
theorem dX12_layNumbers_18 : decode cX12_layNumbers 18 = .ok (.if_icmp .ge 75, 3) := by decide +kernel
theorem dX12_layNumbers_21 : decode cX12_layNumbers 21 = .ok (.aload_n 0, 1) := by decide +kernel
theorem dX12_layNumbers_22 : decode cX12_layNumbers 22 = .ok (.getfield 7, 3) := by decide +kernel
theorem dX12_layNumbers_25 : decode cX12_layNumbers 25 = .ok (.bipush 62, 2) := by decide +kernel
theorem dX12_layNumbers_27 : decode cX12_layNumbers 27 = .ok (.iaload, 1) := by decide +kernel
theorem dX12_layNumbers_28 : decode cX12_layNumbers 28 = .ok (.iconst 1, 1) := by decide +kernel
theorem dX12_layNumbers_29 : decode cX12_layNumbers 29 = .ok (.if_icmp .ne 64, 3) := by decide +kernel
theorem dX12_layNumbers_32 : decode cX12_layNumbers 32 = .ok (.iconst 0, 1) := by decide +kernel
theorem dX12_layNumbers_33 : decode cX12_layNumbers 33 = .ok (.istore 4, 2) := by decide +kernel
theorem dX12_layNumbers_35 : decode cX12_layNumbers 35 = .ok (.iload 4, 2) := by decide +kernel
theorem dX12_layNumbers_37 : decode cX12_layNumbers 37 = .ok (.aload_n 0, 1) := by decide +kernel
theorem dX12_layNumbers_38 : decode cX12_layNumbers 38 = .ok (.iload_n 3, 1) := by decide +kernel
theorem dX12_layNumbers_39 : decode cX12_layNumbers 39 = .ok (.invokevirtual 119, 3) := by decide +kernel
theorem dX12_layNumbers_42 : decode cX12_layNumbers 42 = .ok (.if_icmp .ge 45, 3) := by decide +kernel
theorem dX12_layNumbers_45 : decode cX12_layNumbers 45 = .ok (.aload_n 0, 1) := by decide +kernel
theorem dX12_layNumbers_46 : decode cX12_layNumbers 46 = .ok (.iload_n 3, 1) := by decide +kernel
theorem dX12_layNumbers_47 : decode cX12_layNumbers 47 = .ok (.iload 4, 2) := by decide +kernel
theorem dX12_layNumbers_49 : decode cX12_layNumbers 49 = .ok (.invokevirtual 122, 3) := by decide +kernel
theorem dX12_layNumbers_52 : decode cX12_layNumbers 52 = .ok (.istore 5, 2) := by decide +kernel
theorem dX12_layNumbers_54 : decode cX12_layNumbers 54 = .ok (.iload_n 2, 1) := by decide +kernel
theorem dX12_layNumbers_55 : decode cX12_layNumbers 55 = .ok (.iload 5, 2) := by decide +kernel
theorem dX12_layNumbers_57 : decode cX12_layNumbers 57 = .ok (.ishr, 1) := by decide +kernel
theorem dX12_layNumbers_58 : decode cX12_layNumbers 58 = .ok (.iconst 1, 1) := by decide +kernel
theorem dX12_layNumbers_59 : decode cX12_layNumbers 59 = .ok (.iand, 1) := by decide +kernel
theorem dX12_layNumbers_60 : decode cX12_layNumbers 60 = .ok (.ifCond .ne 21, 3) := by decide +kernel
theorem dX12_layNumbers_63 : decode cX12_layNumbers 63 = .ok (.iload_n 2, 1) := by decide +kernel
theorem dX12_layNumbers_64 : decode cX12_layNumbers 64 = .ok (.iconst 1, 1) := by decide +kernel
theorem dX12_layNumbers_65 : decode cX12_layNumbers 65 = .ok (.iload 5, 2) := by decide +kernel
theorem dX12_layNumbers_67 : decode cX12_layNumbers 67 = .ok (.ishl, 1) := by decide +kernel
theorem dX12_layNumbers_68 : decode cX12_layNumbers 68 = .ok (.ior, 1) := by decide +kernel
theorem dX12_layNumbers_69 : decode cX12_layNumbers 69 = .ok (.istore_n 2, 1) := by decide +kernel
theorem dX12_layNumbers_70 : decode cX12_layNumbers 70 = .ok (.aload_n 0, 1) := by decide +kernel
theorem dX12_layNumbers_71 : decode cX12_layNumbers 71 = .ok (.getfield 25, 3) := by decide +kernel
theorem dX12_layNumbers_74 : decode cX12_layNumbers 74 = .ok (.iload_n 1, 1) := by decide +kernel
theorem dX12_layNumbers_75 : decode cX12_layNumbers 75 = .ok (.iload 5, 2) := by decide +kernel
theorem dX12_layNumbers_77 : decode cX12_layNumbers 77 = .ok (.iastore, 1) := by decide +kernel
theorem dX12_layNumbers_78 : decode cX12_layNumbers 78 = .ok (.iinc 1 1, 3) := by decide +kernel
theorem dX12_layNumbers_81 : decode cX12_layNumbers 81 = .ok (.iinc 4 1, 3) := by decide +kernel
theorem dX12_layNumbers_84 : decode cX12_layNumbers 84 = .ok (.goto (-49), 3) := by decide +kernel
theorem dX12_layNumbers_87 : decode cX12_layNumbers 87 = .ok (.iinc 3 1, 3) := by decide +kernel
theorem dX12_layNumbers_90 : decode cX12_layNumbers 90 = .ok (.goto (-80), 3) := by decide +kernel
theorem dX12_layNumbers_93 : decode cX12_layNumbers 93 = .ok (.iconst 0, 1) := by decide +kernel
theorem dX12_layNumbers_94 : decode cX12_layNumbers 94 = .ok (.istore_n 3, 1) := by decide +kernel
theorem dX12_layNumbers_95 : decode cX12_layNumbers 95 = .ok (.iload_n 3, 1) := by decide +kernel
theorem dX12_layNumbers_96 : decode cX12_layNumbers 96 = .ok (.aload_n 0, 1) := by decide +kernel
theorem dX12_layNumbers_97 : decode cX12_layNumbers 97 = .ok (.getfield 7, 3) := by decide +kernel
theorem dX12_layNumbers_100 : decode cX12_layNumbers 100 = .ok (.iconst 0, 1) := by decide +kernel
theorem dX12_layNumbers_101 : decode cX12_layNumbers 101 = .ok (.iaload, 1) := by decide +kernel
theorem dX12_layNumbers_102 : decode cX12_layNumbers 102 = .ok (.if_icmp .ge 37, 3) := by decide +kernel
theorem dX12_layNumbers_105 : decode cX12_layNumbers 105 = .ok (.iload_n 2, 1) := by decide +kernel
theorem dX12_layNumbers_106 : decode cX12_layNumbers 106 = .ok (.aload_n 0, 1) := by decide +kernel
theorem dX12_layNumbers_107 : decode cX12_layNumbers 107 = .ok (.getfield 22, 3) := by decide +kernel
theorem dX12_layNumbers_110 : decode cX12_layNumbers 110 = .ok (.iload_n 3, 1) := by decide +kernel
theorem dX12_layNumbers_111 : decode cX12_layNumbers 111 = .ok (.iaload, 1) := by decide +kernel
theorem dX12_layNumbers_112 : decode cX12_layNumbers 112 = .ok (.ishr, 1) := by decide +kernel
theorem dX12_layNumbers_113 : decode cX12_layNumbers 113 = .ok (.iconst 1, 1) := by decide +kernel
theorem dX12_layNumbers_114 : decode cX12_layNumbers 114 = .ok (.iand, 1) := by decide +kernel
theorem dX12_layNumbers_115 : decode cX12_layNumbers 115 = .ok (.ifCond .ne 18, 3) := by decide +kernel
theorem dX12_layNumbers_118 : decode cX12_layNumbers 118 = .ok (.aload_n 0, 1) := by decide +kernel
theorem dX12_layNumbers_119 : decode cX12_layNumbers 119 = .ok (.getfield 25, 3) := by decide +kernel
theorem dX12_layNumbers_122 : decode cX12_layNumbers 122 = .ok (.iload_n 1, 1) := by decide +kernel
theorem dX12_layNumbers_123 : decode cX12_layNumbers 123 = .ok (.aload_n 0, 1) := by decide +kernel
theorem dX12_layNumbers_124 : decode cX12_layNumbers 124 = .ok (.getfield 22, 3) := by decide +kernel
theorem dX12_layNumbers_127 : decode cX12_layNumbers 127 = .ok (.iload_n 3, 1) := by decide +kernel
theorem dX12_layNumbers_128 : decode cX12_layNumbers 128 = .ok (.iaload, 1) := by decide +kernel
theorem dX12_layNumbers_129 : decode cX12_layNumbers 129 = .ok (.iastore, 1) := by decide +kernel
theorem dX12_layNumbers_130 : decode cX12_layNumbers 130 = .ok (.iinc 1 1, 3) := by decide +kernel
theorem dX12_layNumbers_133 : decode cX12_layNumbers 133 = .ok (.iinc 3 1, 3) := by decide +kernel
theorem dX12_layNumbers_136 : decode cX12_layNumbers 136 = .ok (.goto (-41), 3) := by decide +kernel
theorem dX12_layNumbers_139 : decode cX12_layNumbers 139 = .ok (.return_, 1) := by decide +kernel
theorem dX12_workOf_0 : decode cX12_workOf 0 = .ok (.aload_n 0, 1) := by decide +kernel
theorem dX12_workOf_1 : decode cX12_workOf 1 = .ok (.getfield 25, 3) := by decide +kernel
theorem dX12_workOf_4 : decode cX12_workOf 4 = .ok (.iload_n 1, 1) := by decide +kernel
theorem dX12_workOf_5 : decode cX12_workOf 5 = .ok (.iconst 1, 1) := by decide +kernel
theorem dX12_workOf_6 : decode cX12_workOf 6 = .ok (.isub, 1) := by decide +kernel
theorem dX12_workOf_7 : decode cX12_workOf 7 = .ok (.iaload, 1) := by decide +kernel
theorem dX12_workOf_8 : decode cX12_workOf 8 = .ok (.ireturn, 1) := by decide +kernel
theorem dX12_placeIn_0 : decode cX12_placeIn 0 = .ok (.iconst 0, 1) := by decide +kernel
theorem dX12_placeIn_1 : decode cX12_placeIn 1 = .ok (.istore_n 3, 1) := by decide +kernel
theorem dX12_placeIn_2 : decode cX12_placeIn 2 = .ok (.aload_n 1, 1) := by decide +kernel
theorem dX12_placeIn_3 : decode cX12_placeIn 3 = .ok (.iload_n 3, 1) := by decide +kernel
theorem dX12_placeIn_4 : decode cX12_placeIn 4 = .ok (.iaload, 1) := by decide +kernel
theorem dX12_placeIn_5 : decode cX12_placeIn 5 = .ok (.iload_n 2, 1) := by decide +kernel
theorem dX12_placeIn_6 : decode cX12_placeIn 6 = .ok (.if_icmp .eq 9, 3) := by decide +kernel
theorem dX12_placeIn_9 : decode cX12_placeIn 9 = .ok (.iinc 3 1, 3) := by decide +kernel
theorem dX12_placeIn_12 : decode cX12_placeIn 12 = .ok (.goto (-10), 3) := by decide +kernel
theorem dX12_placeIn_15 : decode cX12_placeIn 15 = .ok (.iload_n 3, 1) := by decide +kernel
theorem dX12_placeIn_16 : decode cX12_placeIn 16 = .ok (.ireturn, 1) := by decide +kernel
theorem dX12_listed_0 : decode cX12_listed 0 = .ok (.aload_n 0, 1) := by decide +kernel
theorem dX12_listed_1 : decode cX12_listed 1 = .ok (.getfield 7, 3) := by decide +kernel
theorem dX12_listed_4 : decode cX12_listed 4 = .ok (.bipush 57, 2) := by decide +kernel
theorem dX12_listed_6 : decode cX12_listed 6 = .ok (.iaload, 1) := by decide +kernel
theorem dX12_listed_7 : decode cX12_listed 7 = .ok (.iconst 1, 1) := by decide +kernel
theorem dX12_listed_8 : decode cX12_listed 8 = .ok (.if_icmp .ne 12, 3) := by decide +kernel
theorem dX12_listed_11 : decode cX12_listed 11 = .ok (.aload_n 0, 1) := by decide +kernel
theorem dX12_listed_12 : decode cX12_listed 12 = .ok (.getfield 25, 3) := by decide +kernel
theorem dX12_listed_15 : decode cX12_listed 15 = .ok (.iload_n 1, 1) := by decide +kernel
theorem dX12_listed_16 : decode cX12_listed 16 = .ok (.iaload, 1) := by decide +kernel
theorem dX12_listed_17 : decode cX12_listed 17 = .ok (.goto 9, 3) := by decide +kernel
theorem dX12_listed_20 : decode cX12_listed 20 = .ok (.aload_n 0, 1) := by decide +kernel
theorem dX12_listed_21 : decode cX12_listed 21 = .ok (.getfield 22, 3) := by decide +kernel
theorem dX12_listed_24 : decode cX12_listed 24 = .ok (.iload_n 1, 1) := by decide +kernel
theorem dX12_listed_25 : decode cX12_listed 25 = .ok (.iaload, 1) := by decide +kernel
theorem dX12_listed_26 : decode cX12_listed 26 = .ok (.ireturn, 1) := by decide +kernel
set_option maxRecDepth 20000 in
theorem ggX12_bibliographyAt_X12_in : GoodIn wsX12_bibliographyAt wsX12_in := goodIn_r _ [5] (by decide +kernel) (by decide +kernel)
set_option maxRecDepth 20000 in
theorem gX12_bibliographyAt_X12_in : GoodIn wsX12_bibliographyAt (va_wsS RX12 50 yX12_in wsX12_in) := goodIn_app (goodIn_of _ (by decide +kernel)) ggX12_bibliographyAt_X12_in
set_option maxRecDepth 20000 in
theorem ggX12_bibliographyAt_X12_layNumbers : GoodIn wsX12_bibliographyAt wsX12_layNumbers := goodIn_r _ [9, 1, 10, 11, 12, 13, 14, 4, 15, 16, 17, 18, 19, 20, 21, 22, 23, 24, 25, 26, 27, 28, 29, 30, 31, 32, 33, 34, 35, 36, 37, 38, 39, 40, 41, 42, 43, 44, 45, 46, 47, 52, 53, 54, 55, 56, 57, 58, 59, 60, 61, 62, 63, 64, 65, 66, 67, 68, 69, 70] (by decide +kernel) (by decide +kernel)
set_option maxRecDepth 20000 in
theorem gX12_bibliographyAt_X12_layNumbers : GoodIn wsX12_bibliographyAt (wsV RX12 108 RX12 yX12_layNumbers wsX12_layNumbers) := goodIn_app (goodIn_of _ (by decide +kernel)) ggX12_bibliographyAt_X12_layNumbers
set_option maxRecDepth 20000 in
theorem ggX12_bibliographyAt_X12_listed : GoodIn wsX12_bibliographyAt wsX12_listed := goodIn_r _ [51, 1, 10, 11, 52, 53, 54, 55, 56, 57, 58, 59, 60, 61, 62, 63, 64, 65, 66, 67, 68, 69, 70] (by decide +kernel) (by decide +kernel)
set_option maxRecDepth 20000 in
theorem gX12_bibliographyAt_X12_listed : GoodIn wsX12_bibliographyAt (wsV RX12 167 RX12 yX12_listed wsX12_listed) := goodIn_app (goodIn_of _ (by decide +kernel)) ggX12_bibliographyAt_X12_listed
theorem dX12_bibliographyAt_0 : decode cX12_bibliographyAt 0 = .ok (.iload_n 1, 1) := by decide +kernel
theorem dX12_bibliographyAt_1 : decode cX12_bibliographyAt 1 = .ok (.i2l, 1) := by decide +kernel
theorem dX12_bibliographyAt_2 : decode cX12_bibliographyAt 2 = .ok (.lconst 0, 1) := by decide +kernel
theorem dX12_bibliographyAt_3 : decode cX12_bibliographyAt 3 = .ok (.aload_n 0, 1) := by decide +kernel
theorem dX12_bibliographyAt_4 : decode cX12_bibliographyAt 4 = .ok (.getfield 7, 3) := by decide +kernel
theorem dX12_bibliographyAt_7 : decode cX12_bibliographyAt 7 = .ok (.iconst 0, 1) := by decide +kernel
theorem dX12_bibliographyAt_8 : decode cX12_bibliographyAt 8 = .ok (.iaload, 1) := by decide +kernel
theorem dX12_bibliographyAt_9 : decode cX12_bibliographyAt 9 = .ok (.iconst 1, 1) := by decide +kernel
theorem dX12_bibliographyAt_10 : decode cX12_bibliographyAt 10 = .ok (.isub, 1) := by decide +kernel
theorem dX12_bibliographyAt_11 : decode cX12_bibliographyAt 11 = .ok (.i2l, 1) := by decide +kernel
theorem dX12_bibliographyAt_12 : decode cX12_bibliographyAt 12 = .ok (.invokestatic 50, 3) := by decide +kernel
theorem dX12_bibliographyAt_15 : decode cX12_bibliographyAt 15 = .ok (.ifCond .ne 5, 3) := by decide +kernel
theorem dX12_bibliographyAt_18 : decode cX12_bibliographyAt 18 = .ok (.iconst (-1), 1) := by decide +kernel
theorem dX12_bibliographyAt_19 : decode cX12_bibliographyAt 19 = .ok (.ireturn, 1) := by decide +kernel
theorem dX12_bibliographyAt_20 : decode cX12_bibliographyAt 20 = .ok (.aload_n 0, 1) := by decide +kernel
theorem dX12_bibliographyAt_21 : decode cX12_bibliographyAt 21 = .ok (.invokevirtual 108, 3) := by decide +kernel
theorem dX12_bibliographyAt_24 : decode cX12_bibliographyAt 24 = .ok (.aload_n 0, 1) := by decide +kernel
theorem dX12_bibliographyAt_25 : decode cX12_bibliographyAt 25 = .ok (.iload_n 1, 1) := by decide +kernel
theorem dX12_bibliographyAt_26 : decode cX12_bibliographyAt 26 = .ok (.invokevirtual 167, 3) := by decide +kernel
theorem dX12_bibliographyAt_29 : decode cX12_bibliographyAt 29 = .ok (.ireturn, 1) := by decide +kernel
set_option maxRecDepth 20000 in
theorem ggX12_numberOf_X12_isWork : GoodIn wsX12_numberOf wsX12_isWork := goodIn_r _ [6, 7, 8, 9, 5, 10, 56, 57, 58, 59, 60, 61, 62, 63, 64, 65, 66, 67, 68, 69, 70, 71, 72, 73, 74] (by decide +kernel) (by decide +kernel)
set_option maxRecDepth 20000 in
theorem gX12_numberOf_X12_isWork : GoodIn wsX12_numberOf (wsV RX12 116 RX12 yX12_isWork wsX12_isWork) := goodIn_app (goodIn_of _ (by decide +kernel)) ggX12_numberOf_X12_isWork
set_option maxRecDepth 20000 in
theorem ggX12_numberOf_X12_layNumbers : GoodIn wsX12_numberOf wsX12_layNumbers := goodIn_r _ [14, 7, 1, 15, 16, 17, 18, 5, 19, 20, 21, 22, 23, 24, 25, 26, 27, 28, 29, 30, 31, 32, 33, 34, 35, 36, 37, 38, 39, 40, 41, 42, 43, 44, 45, 46, 47, 48, 49, 50, 51, 56, 57, 58, 59, 60, 61, 62, 63, 64, 65, 66, 67, 68, 69, 70, 71, 72, 73, 74] (by decide +kernel) (by decide +kernel)
set_option maxRecDepth 20000 in
theorem gX12_numberOf_X12_layNumbers : GoodIn wsX12_numberOf (wsV RX12 108 RX12 yX12_layNumbers wsX12_layNumbers) := goodIn_app (goodIn_of _ (by decide +kernel)) ggX12_numberOf_X12_layNumbers
set_option maxRecDepth 20000 in
theorem ggX12_numberOf_X12_placeIn : GoodIn wsX12_numberOf wsX12_placeIn := goodIn_r _ [55] (by decide +kernel) (by decide +kernel)
set_option maxRecDepth 20000 in
theorem gX12_numberOf_X12_placeIn : GoodIn wsX12_numberOf (wsV RX12 170 RX12 yX12_placeIn wsX12_placeIn) := goodIn_app (goodIn_of _ (by decide +kernel)) ggX12_numberOf_X12_placeIn
theorem dX12_numberOf_0 : decode cX12_numberOf 0 = .ok (.aload_n 0, 1) := by decide +kernel
theorem dX12_numberOf_1 : decode cX12_numberOf 1 = .ok (.iload_n 1, 1) := by decide +kernel
theorem dX12_numberOf_2 : decode cX12_numberOf 2 = .ok (.invokevirtual 116, 3) := by decide +kernel
theorem dX12_numberOf_5 : decode cX12_numberOf 5 = .ok (.ifCond .ne 5, 3) := by decide +kernel
theorem dX12_numberOf_8 : decode cX12_numberOf 8 = .ok (.iconst (-1), 1) := by decide +kernel
theorem dX12_numberOf_9 : decode cX12_numberOf 9 = .ok (.ireturn, 1) := by decide +kernel
theorem dX12_numberOf_10 : decode cX12_numberOf 10 = .ok (.aload_n 0, 1) := by decide +kernel
theorem dX12_numberOf_11 : decode cX12_numberOf 11 = .ok (.invokevirtual 108, 3) := by decide +kernel
theorem dX12_numberOf_14 : decode cX12_numberOf 14 = .ok (.aload_n 0, 1) := by decide +kernel
theorem dX12_numberOf_15 : decode cX12_numberOf 15 = .ok (.aload_n 0, 1) := by decide +kernel
theorem dX12_numberOf_16 : decode cX12_numberOf 16 = .ok (.getfield 25, 3) := by decide +kernel
theorem dX12_numberOf_19 : decode cX12_numberOf 19 = .ok (.iload_n 1, 1) := by decide +kernel
theorem dX12_numberOf_20 : decode cX12_numberOf 20 = .ok (.invokevirtual 170, 3) := by decide +kernel
theorem dX12_numberOf_23 : decode cX12_numberOf 23 = .ok (.iconst 1, 1) := by decide +kernel
theorem dX12_numberOf_24 : decode cX12_numberOf 24 = .ok (.iadd, 1) := by decide +kernel
theorem dX12_numberOf_25 : decode cX12_numberOf 25 = .ok (.ireturn, 1) := by decide +kernel
set_option maxRecDepth 20000 in
theorem ggX12_haveOneNames_X12_authors : GoodIn wsX12_haveOneNames wsX12_authors := goodIn_r _ [7, 8, 13, 14, 15, 16, 17, 18, 19, 20, 21, 22, 23, 24, 25, 26, 27, 28, 29, 30, 31] (by decide +kernel) (by decide +kernel)
set_option maxRecDepth 20000 in
theorem gX12_haveOneNames_X12_authors : GoodIn wsX12_haveOneNames (wsV RX12 146 RX12 yX12_authors wsX12_authors) := goodIn_app (goodIn_of _ (by decide +kernel)) ggX12_haveOneNames_X12_authors
set_option maxRecDepth 20000 in
theorem ggX12_haveOneNames_X12_author : GoodIn wsX12_haveOneNames wsX12_author := goodIn_r _ [12, 8, 13, 14, 15, 16, 17, 18, 19, 20, 21, 22, 23, 24, 25, 26, 27, 28, 29, 30, 31] (by decide +kernel) (by decide +kernel)
set_option maxRecDepth 20000 in
theorem gX12_haveOneNames_X12_author : GoodIn wsX12_haveOneNames (wsV RX12 149 RX12 yX12_author wsX12_author) := goodIn_app (goodIn_of _ (by decide +kernel)) ggX12_haveOneNames_X12_author
theorem dX12_haveOneNames_0 : decode cX12_haveOneNames 0 = .ok (.aload_n 0, 1) := by decide +kernel
theorem dX12_haveOneNames_1 : decode cX12_haveOneNames 1 = .ok (.getfield 28, 3) := by decide +kernel
theorem dX12_haveOneNames_4 : decode cX12_haveOneNames 4 = .ok (.iload_n 1, 1) := by decide +kernel
theorem dX12_haveOneNames_5 : decode cX12_haveOneNames 5 = .ok (.iaload, 1) := by decide +kernel
theorem dX12_haveOneNames_6 : decode cX12_haveOneNames 6 = .ok (.aload_n 0, 1) := by decide +kernel
theorem dX12_haveOneNames_7 : decode cX12_haveOneNames 7 = .ok (.iload_n 1, 1) := by decide +kernel
theorem dX12_haveOneNames_8 : decode cX12_haveOneNames 8 = .ok (.invokevirtual 146, 3) := by decide +kernel
theorem dX12_haveOneNames_11 : decode cX12_haveOneNames 11 = .ok (.if_icmp .ne 7, 3) := by decide +kernel
theorem dX12_haveOneNames_14 : decode cX12_haveOneNames 14 = .ok (.iconst 1, 1) := by decide +kernel
theorem dX12_haveOneNames_15 : decode cX12_haveOneNames 15 = .ok (.goto 4, 3) := by decide +kernel
theorem dX12_haveOneNames_18 : decode cX12_haveOneNames 18 = .ok (.iconst 0, 1) := by decide +kernel
theorem dX12_haveOneNames_19 : decode cX12_haveOneNames 19 = .ok (.istore_n 3, 1) := by decide +kernel
theorem dX12_haveOneNames_20 : decode cX12_haveOneNames 20 = .ok (.aload_n 0, 1) := by decide +kernel
theorem dX12_haveOneNames_21 : decode cX12_haveOneNames 21 = .ok (.getfield 28, 3) := by decide +kernel
theorem dX12_haveOneNames_24 : decode cX12_haveOneNames 24 = .ok (.iload_n 1, 1) := by decide +kernel
theorem dX12_haveOneNames_25 : decode cX12_haveOneNames 25 = .ok (.iaload, 1) := by decide +kernel
theorem dX12_haveOneNames_26 : decode cX12_haveOneNames 26 = .ok (.aload_n 0, 1) := by decide +kernel
theorem dX12_haveOneNames_27 : decode cX12_haveOneNames 27 = .ok (.getfield 28, 3) := by decide +kernel
theorem dX12_haveOneNames_30 : decode cX12_haveOneNames 30 = .ok (.iload_n 2, 1) := by decide +kernel
theorem dX12_haveOneNames_31 : decode cX12_haveOneNames 31 = .ok (.iaload, 1) := by decide +kernel
theorem dX12_haveOneNames_32 : decode cX12_haveOneNames 32 = .ok (.if_icmp .ne 45, 3) := by decide +kernel
theorem dX12_haveOneNames_35 : decode cX12_haveOneNames 35 = .ok (.aload_n 0, 1) := by decide +kernel
theorem dX12_haveOneNames_36 : decode cX12_haveOneNames 36 = .ok (.getfield 31, 3) := by decide +kernel
theorem dX12_haveOneNames_39 : decode cX12_haveOneNames 39 = .ok (.iload_n 1, 1) := by decide +kernel
theorem dX12_haveOneNames_40 : decode cX12_haveOneNames 40 = .ok (.baload, 1) := by decide +kernel
theorem dX12_haveOneNames_41 : decode cX12_haveOneNames 41 = .ok (.aload_n 0, 1) := by decide +kernel
theorem dX12_haveOneNames_42 : decode cX12_haveOneNames 42 = .ok (.getfield 31, 3) := by decide +kernel
theorem dX12_haveOneNames_45 : decode cX12_haveOneNames 45 = .ok (.iload_n 2, 1) := by decide +kernel
theorem dX12_haveOneNames_46 : decode cX12_haveOneNames 46 = .ok (.baload, 1) := by decide +kernel
theorem dX12_haveOneNames_47 : decode cX12_haveOneNames 47 = .ok (.if_icmp .ne 30, 3) := by decide +kernel
theorem dX12_haveOneNames_50 : decode cX12_haveOneNames 50 = .ok (.iload_n 3, 1) := by decide +kernel
theorem dX12_haveOneNames_51 : decode cX12_haveOneNames 51 = .ok (.aload_n 0, 1) := by decide +kernel
theorem dX12_haveOneNames_52 : decode cX12_haveOneNames 52 = .ok (.getfield 28, 3) := by decide +kernel
theorem dX12_haveOneNames_55 : decode cX12_haveOneNames 55 = .ok (.iload_n 2, 1) := by decide +kernel
theorem dX12_haveOneNames_56 : decode cX12_haveOneNames 56 = .ok (.iaload, 1) := by decide +kernel
theorem dX12_haveOneNames_57 : decode cX12_haveOneNames 57 = .ok (.aload_n 0, 1) := by decide +kernel
theorem dX12_haveOneNames_58 : decode cX12_haveOneNames 58 = .ok (.iload_n 2, 1) := by decide +kernel
theorem dX12_haveOneNames_59 : decode cX12_haveOneNames 59 = .ok (.invokevirtual 146, 3) := by decide +kernel
theorem dX12_haveOneNames_62 : decode cX12_haveOneNames 62 = .ok (.if_icmp .ne 7, 3) := by decide +kernel
theorem dX12_haveOneNames_65 : decode cX12_haveOneNames 65 = .ok (.iconst 1, 1) := by decide +kernel
theorem dX12_haveOneNames_66 : decode cX12_haveOneNames 66 = .ok (.goto 4, 3) := by decide +kernel
theorem dX12_haveOneNames_69 : decode cX12_haveOneNames 69 = .ok (.iconst 0, 1) := by decide +kernel
theorem dX12_haveOneNames_70 : decode cX12_haveOneNames 70 = .ok (.if_icmp .ne 7, 3) := by decide +kernel
theorem dX12_haveOneNames_73 : decode cX12_haveOneNames 73 = .ok (.iconst 1, 1) := by decide +kernel
theorem dX12_haveOneNames_74 : decode cX12_haveOneNames 74 = .ok (.goto 4, 3) := by decide +kernel
theorem dX12_haveOneNames_77 : decode cX12_haveOneNames 77 = .ok (.iconst 0, 1) := by decide +kernel
theorem dX12_haveOneNames_78 : decode cX12_haveOneNames 78 = .ok (.istore 4, 2) := by decide +kernel
theorem dX12_haveOneNames_80 : decode cX12_haveOneNames 80 = .ok (.iconst 0, 1) := by decide +kernel
theorem dX12_haveOneNames_81 : decode cX12_haveOneNames 81 = .ok (.istore 5, 2) := by decide +kernel
theorem dX12_haveOneNames_83 : decode cX12_haveOneNames 83 = .ok (.iload 5, 2) := by decide +kernel
theorem dX12_haveOneNames_85 : decode cX12_haveOneNames 85 = .ok (.aload_n 0, 1) := by decide +kernel
theorem dX12_haveOneNames_86 : decode cX12_haveOneNames 86 = .ok (.getfield 28, 3) := by decide +kernel
theorem dX12_haveOneNames_89 : decode cX12_haveOneNames 89 = .ok (.iload_n 1, 1) := by decide +kernel
theorem dX12_haveOneNames_90 : decode cX12_haveOneNames 90 = .ok (.iaload, 1) := by decide +kernel
theorem dX12_haveOneNames_91 : decode cX12_haveOneNames 91 = .ok (.if_icmp .ge 78, 3) := by decide +kernel
theorem dX12_haveOneNames_94 : decode cX12_haveOneNames 94 = .ok (.iload 4, 2) := by decide +kernel
theorem dX12_haveOneNames_96 : decode cX12_haveOneNames 96 = .ok (.ifCond .eq 73, 3) := by decide +kernel
theorem dX12_haveOneNames_99 : decode cX12_haveOneNames 99 = .ok (.aload_n 0, 1) := by decide +kernel
theorem dX12_haveOneNames_100 : decode cX12_haveOneNames 100 = .ok (.getfield 31, 3) := by decide +kernel
theorem dX12_haveOneNames_103 : decode cX12_haveOneNames 103 = .ok (.iload_n 1, 1) := by decide +kernel
theorem dX12_haveOneNames_104 : decode cX12_haveOneNames 104 = .ok (.baload, 1) := by decide +kernel
theorem dX12_haveOneNames_105 : decode cX12_haveOneNames 105 = .ok (.ifCond .eq 28, 3) := by decide +kernel
theorem dX12_haveOneNames_108 : decode cX12_haveOneNames 108 = .ok (.aload_n 0, 1) := by decide +kernel
theorem dX12_haveOneNames_109 : decode cX12_haveOneNames 109 = .ok (.iload_n 1, 1) := by decide +kernel
theorem dX12_haveOneNames_110 : decode cX12_haveOneNames 110 = .ok (.iload 5, 2) := by decide +kernel
theorem dX12_haveOneNames_112 : decode cX12_haveOneNames 112 = .ok (.invokevirtual 149, 3) := by decide +kernel
theorem dX12_haveOneNames_115 : decode cX12_haveOneNames 115 = .ok (.aload_n 0, 1) := by decide +kernel
theorem dX12_haveOneNames_116 : decode cX12_haveOneNames 116 = .ok (.iload_n 2, 1) := by decide +kernel
theorem dX12_haveOneNames_117 : decode cX12_haveOneNames 117 = .ok (.iload 5, 2) := by decide +kernel
theorem dX12_haveOneNames_119 : decode cX12_haveOneNames 119 = .ok (.invokevirtual 149, 3) := by decide +kernel
theorem dX12_haveOneNames_122 : decode cX12_haveOneNames 122 = .ok (.if_icmp .ne 7, 3) := by decide +kernel
theorem dX12_haveOneNames_125 : decode cX12_haveOneNames 125 = .ok (.iconst 1, 1) := by decide +kernel
theorem dX12_haveOneNames_126 : decode cX12_haveOneNames 126 = .ok (.goto 35, 3) := by decide +kernel
theorem dX12_haveOneNames_129 : decode cX12_haveOneNames 129 = .ok (.iconst 0, 1) := by decide +kernel
theorem dX12_haveOneNames_130 : decode cX12_haveOneNames 130 = .ok (.goto 31, 3) := by decide +kernel
theorem dX12_haveOneNames_133 : decode cX12_haveOneNames 133 = .ok (.aload_n 0, 1) := by decide +kernel
theorem dX12_haveOneNames_134 : decode cX12_haveOneNames 134 = .ok (.iload_n 1, 1) := by decide +kernel
theorem dX12_haveOneNames_135 : decode cX12_haveOneNames 135 = .ok (.iload 5, 2) := by decide +kernel
theorem dX12_haveOneNames_137 : decode cX12_haveOneNames 137 = .ok (.invokevirtual 149, 3) := by decide +kernel
theorem dX12_haveOneNames_140 : decode cX12_haveOneNames 140 = .ok (.bipush 26, 2) := by decide +kernel
theorem dX12_haveOneNames_142 : decode cX12_haveOneNames 142 = .ok (.idiv, 1) := by decide +kernel
theorem dX12_haveOneNames_143 : decode cX12_haveOneNames 143 = .ok (.aload_n 0, 1) := by decide +kernel
theorem dX12_haveOneNames_144 : decode cX12_haveOneNames 144 = .ok (.iload_n 2, 1) := by decide +kernel
theorem dX12_haveOneNames_145 : decode cX12_haveOneNames 145 = .ok (.iload 5, 2) := by decide +kernel
theorem dX12_haveOneNames_147 : decode cX12_haveOneNames 147 = .ok (.invokevirtual 149, 3) := by decide +kernel
theorem dX12_haveOneNames_150 : decode cX12_haveOneNames 150 = .ok (.bipush 26, 2) := by decide +kernel
theorem dX12_haveOneNames_152 : decode cX12_haveOneNames 152 = .ok (.idiv, 1) := by decide +kernel
theorem dX12_haveOneNames_153 : decode cX12_haveOneNames 153 = .ok (.if_icmp .ne 7, 3) := by decide +kernel
theorem dX12_haveOneNames_156 : decode cX12_haveOneNames 156 = .ok (.iconst 1, 1) := by decide +kernel
theorem dX12_haveOneNames_157 : decode cX12_haveOneNames 157 = .ok (.goto 4, 3) := by decide +kernel
theorem dX12_haveOneNames_160 : decode cX12_haveOneNames 160 = .ok (.iconst 0, 1) := by decide +kernel
theorem dX12_haveOneNames_161 : decode cX12_haveOneNames 161 = .ok (.istore 4, 2) := by decide +kernel
theorem dX12_haveOneNames_163 : decode cX12_haveOneNames 163 = .ok (.iinc 5 1, 3) := by decide +kernel
theorem dX12_haveOneNames_166 : decode cX12_haveOneNames 166 = .ok (.goto (-83), 3) := by decide +kernel
theorem dX12_haveOneNames_169 : decode cX12_haveOneNames 169 = .ok (.iload 4, 2) := by decide +kernel
theorem dX12_haveOneNames_171 : decode cX12_haveOneNames 171 = .ok (.ireturn, 1) := by decide +kernel
set_option maxRecDepth 20000 in
theorem ggX12_haveOneLabel_X12_year : GoodIn wsX12_haveOneLabel wsX12_year := goodIn_r _ [6, 7, 22, 23, 24, 25, 26, 27, 28, 29, 30, 31, 32, 33, 34, 35, 36, 37, 38, 39, 40] (by decide +kernel) (by decide +kernel)
set_option maxRecDepth 20000 in
theorem gX12_haveOneLabel_X12_year : GoodIn wsX12_haveOneLabel (wsV RX12 155 RX12 yX12_year wsX12_year) := goodIn_app (goodIn_of _ (by decide +kernel)) ggX12_haveOneLabel_X12_year
set_option maxRecDepth 20000 in
theorem ggX12_haveOneLabel_X12_haveOneNames : GoodIn wsX12_haveOneLabel wsX12_haveOneNames := goodIn_r _ [11, 12, 13, 14, 15, 16, 5, 17, 7, 18, 19, 20, 21, 22, 23, 24, 25, 26, 27, 28, 29, 30, 31, 32, 33, 34, 35, 36, 37, 38, 39, 40] (by decide +kernel) (by decide +kernel)
set_option maxRecDepth 20000 in
theorem gX12_haveOneLabel_X12_haveOneNames : GoodIn wsX12_haveOneLabel (wsV RX12 174 RX12 yX12_haveOneNames wsX12_haveOneNames) := goodIn_app (goodIn_of _ (by decide +kernel)) ggX12_haveOneLabel_X12_haveOneNames
theorem dX12_haveOneLabel_0 : decode cX12_haveOneLabel 0 = .ok (.aload_n 0, 1) := by decide +kernel
theorem dX12_haveOneLabel_1 : decode cX12_haveOneLabel 1 = .ok (.iload_n 1, 1) := by decide +kernel
theorem dX12_haveOneLabel_2 : decode cX12_haveOneLabel 2 = .ok (.invokevirtual 155, 3) := by decide +kernel
theorem dX12_haveOneLabel_5 : decode cX12_haveOneLabel 5 = .ok (.aload_n 0, 1) := by decide +kernel
theorem dX12_haveOneLabel_6 : decode cX12_haveOneLabel 6 = .ok (.iload_n 2, 1) := by decide +kernel
theorem dX12_haveOneLabel_7 : decode cX12_haveOneLabel 7 = .ok (.invokevirtual 155, 3) := by decide +kernel
theorem dX12_haveOneLabel_10 : decode cX12_haveOneLabel 10 = .ok (.if_icmp .ne 31, 3) := by decide +kernel
theorem dX12_haveOneLabel_13 : decode cX12_haveOneLabel 13 = .ok (.aload_n 0, 1) := by decide +kernel
theorem dX12_haveOneLabel_14 : decode cX12_haveOneLabel 14 = .ok (.getfield 35, 3) := by decide +kernel
theorem dX12_haveOneLabel_17 : decode cX12_haveOneLabel 17 = .ok (.iload_n 1, 1) := by decide +kernel
theorem dX12_haveOneLabel_18 : decode cX12_haveOneLabel 18 = .ok (.iaload, 1) := by decide +kernel
theorem dX12_haveOneLabel_19 : decode cX12_haveOneLabel 19 = .ok (.aload_n 0, 1) := by decide +kernel
theorem dX12_haveOneLabel_20 : decode cX12_haveOneLabel 20 = .ok (.getfield 35, 3) := by decide +kernel
theorem dX12_haveOneLabel_23 : decode cX12_haveOneLabel 23 = .ok (.iload_n 2, 1) := by decide +kernel
theorem dX12_haveOneLabel_24 : decode cX12_haveOneLabel 24 = .ok (.iaload, 1) := by decide +kernel
theorem dX12_haveOneLabel_25 : decode cX12_haveOneLabel 25 = .ok (.if_icmp .ne 16, 3) := by decide +kernel
theorem dX12_haveOneLabel_28 : decode cX12_haveOneLabel 28 = .ok (.aload_n 0, 1) := by decide +kernel
theorem dX12_haveOneLabel_29 : decode cX12_haveOneLabel 29 = .ok (.iload_n 1, 1) := by decide +kernel
theorem dX12_haveOneLabel_30 : decode cX12_haveOneLabel 30 = .ok (.iload_n 2, 1) := by decide +kernel
theorem dX12_haveOneLabel_31 : decode cX12_haveOneLabel 31 = .ok (.invokevirtual 174, 3) := by decide +kernel
theorem dX12_haveOneLabel_34 : decode cX12_haveOneLabel 34 = .ok (.ifCond .eq 7, 3) := by decide +kernel
theorem dX12_haveOneLabel_37 : decode cX12_haveOneLabel 37 = .ok (.iconst 1, 1) := by decide +kernel
theorem dX12_haveOneLabel_38 : decode cX12_haveOneLabel 38 = .ok (.goto 4, 3) := by decide +kernel
theorem dX12_haveOneLabel_41 : decode cX12_haveOneLabel 41 = .ok (.iconst 0, 1) := by decide +kernel
theorem dX12_haveOneLabel_42 : decode cX12_haveOneLabel 42 = .ok (.ireturn, 1) := by decide +kernel
set_option maxRecDepth 20000 in
theorem ggX12_layGroups_X12_haveOneLabel : GoodIn wsX12_layGroups wsX12_haveOneLabel := goodIn_r _ [7, 8, 9, 10, 11, 6, 12, 1, 13, 14, 15, 16, 17, 18, 19, 20, 21, 22, 23, 24, 25, 26, 27, 28, 29, 30, 31, 32, 33, 34, 35, 36, 37, 38, 39, 40, 41, 42, 43, 44, 45] (by decide +kernel) (by decide +kernel)
set_option maxRecDepth 20000 in
theorem gX12_layGroups_X12_haveOneLabel : GoodIn wsX12_layGroups (wsV RX12 177 RX12 yX12_haveOneLabel wsX12_haveOneLabel) := goodIn_app (goodIn_of _ (by decide +kernel)) ggX12_layGroups_X12_haveOneLabel
theorem dX12_layGroups_0 : decode cX12_layGroups 0 = .ok (.iconst 0, 1) := by decide +kernel
theorem dX12_layGroups_1 : decode cX12_layGroups 1 = .ok (.istore_n 1, 1) := by decide +kernel
theorem dX12_layGroups_2 : decode cX12_layGroups 2 = .ok (.iload_n 1, 1) := by decide +kernel
theorem dX12_layGroups_3 : decode cX12_layGroups 3 = .ok (.aload_n 0, 1) := by decide +kernel
theorem dX12_layGroups_4 : decode cX12_layGroups 4 = .ok (.getfield 7, 3) := by decide +kernel
theorem dX12_layGroups_7 : decode cX12_layGroups 7 = .ok (.iconst 0, 1) := by decide +kernel
theorem dX12_layGroups_8 : decode cX12_layGroups 8 = .ok (.iaload, 1) := by decide +kernel
theorem dX12_layGroups_9 : decode cX12_layGroups 9 = .ok (.if_icmp .ge 55, 3) := by decide +kernel
theorem dX12_layGroups_12 : decode cX12_layGroups 12 = .ok (.aload_n 0, 1) := by decide +kernel
theorem dX12_layGroups_13 : decode cX12_layGroups 13 = .ok (.getfield 38, 3) := by decide +kernel
theorem dX12_layGroups_16 : decode cX12_layGroups 16 = .ok (.iload_n 1, 1) := by decide +kernel
theorem dX12_layGroups_17 : decode cX12_layGroups 17 = .ok (.iload_n 1, 1) := by decide +kernel
theorem dX12_layGroups_18 : decode cX12_layGroups 18 = .ok (.iastore, 1) := by decide +kernel
theorem dX12_layGroups_19 : decode cX12_layGroups 19 = .ok (.iload_n 1, 1) := by decide +kernel
theorem dX12_layGroups_20 : decode cX12_layGroups 20 = .ok (.iconst 1, 1) := by decide +kernel
theorem dX12_layGroups_21 : decode cX12_layGroups 21 = .ok (.isub, 1) := by decide +kernel
theorem dX12_layGroups_22 : decode cX12_layGroups 22 = .ok (.istore_n 2, 1) := by decide +kernel
theorem dX12_layGroups_23 : decode cX12_layGroups 23 = .ok (.iload_n 2, 1) := by decide +kernel
theorem dX12_layGroups_24 : decode cX12_layGroups 24 = .ok (.ifCond .lt 34, 3) := by decide +kernel
theorem dX12_layGroups_27 : decode cX12_layGroups 27 = .ok (.aload_n 0, 1) := by decide +kernel
theorem dX12_layGroups_28 : decode cX12_layGroups 28 = .ok (.getfield 38, 3) := by decide +kernel
theorem dX12_layGroups_31 : decode cX12_layGroups 31 = .ok (.iload_n 1, 1) := by decide +kernel
theorem dX12_layGroups_32 : decode cX12_layGroups 32 = .ok (.aload_n 0, 1) := by decide +kernel
theorem dX12_layGroups_33 : decode cX12_layGroups 33 = .ok (.iload_n 2, 1) := by decide +kernel
theorem dX12_layGroups_34 : decode cX12_layGroups 34 = .ok (.iload_n 1, 1) := by decide +kernel
theorem dX12_layGroups_35 : decode cX12_layGroups 35 = .ok (.invokevirtual 177, 3) := by decide +kernel
theorem dX12_layGroups_38 : decode cX12_layGroups 38 = .ok (.ifCond .eq 7, 3) := by decide +kernel
theorem dX12_layGroups_41 : decode cX12_layGroups 41 = .ok (.iload_n 2, 1) := by decide +kernel
theorem dX12_layGroups_42 : decode cX12_layGroups 42 = .ok (.goto 9, 3) := by decide +kernel
theorem dX12_layGroups_45 : decode cX12_layGroups 45 = .ok (.aload_n 0, 1) := by decide +kernel
theorem dX12_layGroups_46 : decode cX12_layGroups 46 = .ok (.getfield 38, 3) := by decide +kernel
theorem dX12_layGroups_49 : decode cX12_layGroups 49 = .ok (.iload_n 1, 1) := by decide +kernel
theorem dX12_layGroups_50 : decode cX12_layGroups 50 = .ok (.iaload, 1) := by decide +kernel
theorem dX12_layGroups_51 : decode cX12_layGroups 51 = .ok (.iastore, 1) := by decide +kernel
theorem dX12_layGroups_52 : decode cX12_layGroups 52 = .ok (.iinc 2 (-1), 3) := by decide +kernel
theorem dX12_layGroups_55 : decode cX12_layGroups 55 = .ok (.goto (-32), 3) := by decide +kernel
theorem dX12_layGroups_58 : decode cX12_layGroups 58 = .ok (.iinc 1 1, 3) := by decide +kernel
theorem dX12_layGroups_61 : decode cX12_layGroups 61 = .ok (.goto (-59), 3) := by decide +kernel
theorem dX12_layGroups_64 : decode cX12_layGroups 64 = .ok (.return_, 1) := by decide +kernel
theorem dX12_sizeOf_0 : decode cX12_sizeOf 0 = .ok (.iconst 0, 1) := by decide +kernel
theorem dX12_sizeOf_1 : decode cX12_sizeOf 1 = .ok (.istore_n 2, 1) := by decide +kernel
theorem dX12_sizeOf_2 : decode cX12_sizeOf 2 = .ok (.iconst 0, 1) := by decide +kernel
theorem dX12_sizeOf_3 : decode cX12_sizeOf 3 = .ok (.istore_n 3, 1) := by decide +kernel
theorem dX12_sizeOf_4 : decode cX12_sizeOf 4 = .ok (.iload_n 3, 1) := by decide +kernel
theorem dX12_sizeOf_5 : decode cX12_sizeOf 5 = .ok (.aload_n 0, 1) := by decide +kernel
theorem dX12_sizeOf_6 : decode cX12_sizeOf 6 = .ok (.getfield 7, 3) := by decide +kernel
theorem dX12_sizeOf_9 : decode cX12_sizeOf 9 = .ok (.iconst 0, 1) := by decide +kernel
theorem dX12_sizeOf_10 : decode cX12_sizeOf 10 = .ok (.iaload, 1) := by decide +kernel
theorem dX12_sizeOf_11 : decode cX12_sizeOf 11 = .ok (.if_icmp .ge 27, 3) := by decide +kernel
theorem dX12_sizeOf_14 : decode cX12_sizeOf 14 = .ok (.iload_n 2, 1) := by decide +kernel
theorem dX12_sizeOf_15 : decode cX12_sizeOf 15 = .ok (.aload_n 0, 1) := by decide +kernel
theorem dX12_sizeOf_16 : decode cX12_sizeOf 16 = .ok (.getfield 38, 3) := by decide +kernel
theorem dX12_sizeOf_19 : decode cX12_sizeOf 19 = .ok (.iload_n 3, 1) := by decide +kernel
theorem dX12_sizeOf_20 : decode cX12_sizeOf 20 = .ok (.iaload, 1) := by decide +kernel
theorem dX12_sizeOf_21 : decode cX12_sizeOf 21 = .ok (.iload_n 1, 1) := by decide +kernel
theorem dX12_sizeOf_22 : decode cX12_sizeOf 22 = .ok (.if_icmp .ne 7, 3) := by decide +kernel
theorem dX12_sizeOf_25 : decode cX12_sizeOf 25 = .ok (.iconst 1, 1) := by decide +kernel
theorem dX12_sizeOf_26 : decode cX12_sizeOf 26 = .ok (.goto 4, 3) := by decide +kernel
theorem dX12_sizeOf_29 : decode cX12_sizeOf 29 = .ok (.iconst 0, 1) := by decide +kernel
theorem dX12_sizeOf_30 : decode cX12_sizeOf 30 = .ok (.iadd, 1) := by decide +kernel
theorem dX12_sizeOf_31 : decode cX12_sizeOf 31 = .ok (.istore_n 2, 1) := by decide +kernel
theorem dX12_sizeOf_32 : decode cX12_sizeOf 32 = .ok (.iinc 3 1, 3) := by decide +kernel
theorem dX12_sizeOf_35 : decode cX12_sizeOf 35 = .ok (.goto (-31), 3) := by decide +kernel
theorem dX12_sizeOf_38 : decode cX12_sizeOf 38 = .ok (.iload_n 2, 1) := by decide +kernel
theorem dX12_sizeOf_39 : decode cX12_sizeOf 39 = .ok (.ireturn, 1) := by decide +kernel
set_option maxRecDepth 20000 in
theorem ggX12_labelsOf_X12_haveOneLabel : GoodIn wsX12_labelsOf wsX12_haveOneLabel := goodIn_r _ [7, 8, 9, 10, 11, 6, 12, 1, 13, 14, 15, 16, 17, 18, 19, 20, 21, 22, 23, 24, 25, 26, 27, 28, 29, 30, 31, 32, 33, 34, 35, 36, 37, 38, 39, 40, 41, 42, 43, 44, 45] (by decide +kernel) (by decide +kernel)
set_option maxRecDepth 20000 in
theorem gX12_labelsOf_X12_haveOneLabel : GoodIn wsX12_labelsOf (wsV RX12 177 RX12 yX12_haveOneLabel wsX12_haveOneLabel) := goodIn_app (goodIn_of _ (by decide +kernel)) ggX12_labelsOf_X12_haveOneLabel
theorem dX12_labelsOf_0 : decode cX12_labelsOf 0 = .ok (.iconst 0, 1) := by decide +kernel
theorem dX12_labelsOf_1 : decode cX12_labelsOf 1 = .ok (.istore_n 2, 1) := by decide +kernel
theorem dX12_labelsOf_2 : decode cX12_labelsOf 2 = .ok (.iconst 0, 1) := by decide +kernel
theorem dX12_labelsOf_3 : decode cX12_labelsOf 3 = .ok (.istore_n 3, 1) := by decide +kernel
theorem dX12_labelsOf_4 : decode cX12_labelsOf 4 = .ok (.iload_n 3, 1) := by decide +kernel
theorem dX12_labelsOf_5 : decode cX12_labelsOf 5 = .ok (.aload_n 0, 1) := by decide +kernel
theorem dX12_labelsOf_6 : decode cX12_labelsOf 6 = .ok (.getfield 7, 3) := by decide +kernel
theorem dX12_labelsOf_9 : decode cX12_labelsOf 9 = .ok (.iconst 0, 1) := by decide +kernel
theorem dX12_labelsOf_10 : decode cX12_labelsOf 10 = .ok (.iaload, 1) := by decide +kernel
theorem dX12_labelsOf_11 : decode cX12_labelsOf 11 = .ok (.if_icmp .ge 87, 3) := by decide +kernel
theorem dX12_labelsOf_14 : decode cX12_labelsOf 14 = .ok (.aload_n 0, 1) := by decide +kernel
theorem dX12_labelsOf_15 : decode cX12_labelsOf 15 = .ok (.getfield 38, 3) := by decide +kernel
theorem dX12_labelsOf_18 : decode cX12_labelsOf 18 = .ok (.iload_n 3, 1) := by decide +kernel
theorem dX12_labelsOf_19 : decode cX12_labelsOf 19 = .ok (.iaload, 1) := by decide +kernel
theorem dX12_labelsOf_20 : decode cX12_labelsOf 20 = .ok (.iload_n 1, 1) := by decide +kernel
theorem dX12_labelsOf_21 : decode cX12_labelsOf 21 = .ok (.if_icmp .ne 7, 3) := by decide +kernel
theorem dX12_labelsOf_24 : decode cX12_labelsOf 24 = .ok (.iconst 1, 1) := by decide +kernel
theorem dX12_labelsOf_25 : decode cX12_labelsOf 25 = .ok (.goto 4, 3) := by decide +kernel
theorem dX12_labelsOf_28 : decode cX12_labelsOf 28 = .ok (.iconst 0, 1) := by decide +kernel
theorem dX12_labelsOf_29 : decode cX12_labelsOf 29 = .ok (.istore 4, 2) := by decide +kernel
theorem dX12_labelsOf_31 : decode cX12_labelsOf 31 = .ok (.iconst 0, 1) := by decide +kernel
theorem dX12_labelsOf_32 : decode cX12_labelsOf 32 = .ok (.istore 5, 2) := by decide +kernel
theorem dX12_labelsOf_34 : decode cX12_labelsOf 34 = .ok (.iload 5, 2) := by decide +kernel
theorem dX12_labelsOf_36 : decode cX12_labelsOf 36 = .ok (.iload_n 3, 1) := by decide +kernel
theorem dX12_labelsOf_37 : decode cX12_labelsOf 37 = .ok (.if_icmp .ge 42, 3) := by decide +kernel
theorem dX12_labelsOf_40 : decode cX12_labelsOf 40 = .ok (.iload 4, 2) := by decide +kernel
theorem dX12_labelsOf_42 : decode cX12_labelsOf 42 = .ok (.ifCond .eq 28, 3) := by decide +kernel
theorem dX12_labelsOf_45 : decode cX12_labelsOf 45 = .ok (.aload_n 0, 1) := by decide +kernel
theorem dX12_labelsOf_46 : decode cX12_labelsOf 46 = .ok (.getfield 38, 3) := by decide +kernel
theorem dX12_labelsOf_49 : decode cX12_labelsOf 49 = .ok (.iload 5, 2) := by decide +kernel
theorem dX12_labelsOf_51 : decode cX12_labelsOf 51 = .ok (.iaload, 1) := by decide +kernel
theorem dX12_labelsOf_52 : decode cX12_labelsOf 52 = .ok (.iload_n 1, 1) := by decide +kernel
theorem dX12_labelsOf_53 : decode cX12_labelsOf 53 = .ok (.if_icmp .ne 13, 3) := by decide +kernel
theorem dX12_labelsOf_56 : decode cX12_labelsOf 56 = .ok (.aload_n 0, 1) := by decide +kernel
theorem dX12_labelsOf_57 : decode cX12_labelsOf 57 = .ok (.iload 5, 2) := by decide +kernel
theorem dX12_labelsOf_59 : decode cX12_labelsOf 59 = .ok (.iload_n 3, 1) := by decide +kernel
theorem dX12_labelsOf_60 : decode cX12_labelsOf 60 = .ok (.invokevirtual 177, 3) := by decide +kernel
theorem dX12_labelsOf_63 : decode cX12_labelsOf 63 = .ok (.ifCond .ne 7, 3) := by decide +kernel
theorem dX12_labelsOf_66 : decode cX12_labelsOf 66 = .ok (.iconst 1, 1) := by decide +kernel
theorem dX12_labelsOf_67 : decode cX12_labelsOf 67 = .ok (.goto 4, 3) := by decide +kernel
theorem dX12_labelsOf_70 : decode cX12_labelsOf 70 = .ok (.iconst 0, 1) := by decide +kernel
theorem dX12_labelsOf_71 : decode cX12_labelsOf 71 = .ok (.istore 4, 2) := by decide +kernel
theorem dX12_labelsOf_73 : decode cX12_labelsOf 73 = .ok (.iinc 5 1, 3) := by decide +kernel
theorem dX12_labelsOf_76 : decode cX12_labelsOf 76 = .ok (.goto (-42), 3) := by decide +kernel
theorem dX12_labelsOf_79 : decode cX12_labelsOf 79 = .ok (.iload_n 2, 1) := by decide +kernel
theorem dX12_labelsOf_80 : decode cX12_labelsOf 80 = .ok (.iload 4, 2) := by decide +kernel
theorem dX12_labelsOf_82 : decode cX12_labelsOf 82 = .ok (.ifCond .eq 7, 3) := by decide +kernel
theorem dX12_labelsOf_85 : decode cX12_labelsOf 85 = .ok (.iconst 1, 1) := by decide +kernel
theorem dX12_labelsOf_86 : decode cX12_labelsOf 86 = .ok (.goto 4, 3) := by decide +kernel
theorem dX12_labelsOf_89 : decode cX12_labelsOf 89 = .ok (.iconst 0, 1) := by decide +kernel
theorem dX12_labelsOf_90 : decode cX12_labelsOf 90 = .ok (.iadd, 1) := by decide +kernel
theorem dX12_labelsOf_91 : decode cX12_labelsOf 91 = .ok (.istore_n 2, 1) := by decide +kernel
theorem dX12_labelsOf_92 : decode cX12_labelsOf 92 = .ok (.iinc 3 1, 3) := by decide +kernel
theorem dX12_labelsOf_95 : decode cX12_labelsOf 95 = .ok (.goto (-91), 3) := by decide +kernel
theorem dX12_labelsOf_98 : decode cX12_labelsOf 98 = .ok (.iload_n 2, 1) := by decide +kernel
theorem dX12_labelsOf_99 : decode cX12_labelsOf 99 = .ok (.ireturn, 1) := by decide +kernel
set_option maxRecDepth 20000 in
theorem ggX12_showAtLeast_X12_authors : GoodIn wsX12_showAtLeast wsX12_authors := goodIn_r _ [9, 1, 10, 11, 12, 13, 14, 15, 16, 17, 18, 19, 20, 21, 22, 23, 24, 25, 26, 27, 28] (by decide +kernel) (by decide +kernel)
set_option maxRecDepth 20000 in
theorem gX12_showAtLeast_X12_authors : GoodIn wsX12_showAtLeast (wsV RX12 146 RX12 yX12_authors wsX12_authors) := goodIn_app (goodIn_of _ (by decide +kernel)) ggX12_showAtLeast_X12_authors
theorem dX12_showAtLeast_0 : decode cX12_showAtLeast 0 = .ok (.iconst 0, 1) := by decide +kernel
theorem dX12_showAtLeast_1 : decode cX12_showAtLeast 1 = .ok (.istore_n 3, 1) := by decide +kernel
theorem dX12_showAtLeast_2 : decode cX12_showAtLeast 2 = .ok (.iload_n 3, 1) := by decide +kernel
theorem dX12_showAtLeast_3 : decode cX12_showAtLeast 3 = .ok (.aload_n 0, 1) := by decide +kernel
theorem dX12_showAtLeast_4 : decode cX12_showAtLeast 4 = .ok (.getfield 7, 3) := by decide +kernel
theorem dX12_showAtLeast_7 : decode cX12_showAtLeast 7 = .ok (.iconst 0, 1) := by decide +kernel
theorem dX12_showAtLeast_8 : decode cX12_showAtLeast 8 = .ok (.iaload, 1) := by decide +kernel
theorem dX12_showAtLeast_9 : decode cX12_showAtLeast 9 = .ok (.if_icmp .ge 67, 3) := by decide +kernel
theorem dX12_showAtLeast_12 : decode cX12_showAtLeast 12 = .ok (.aload_n 0, 1) := by decide +kernel
theorem dX12_showAtLeast_13 : decode cX12_showAtLeast 13 = .ok (.getfield 38, 3) := by decide +kernel
theorem dX12_showAtLeast_16 : decode cX12_showAtLeast 16 = .ok (.iload_n 3, 1) := by decide +kernel
theorem dX12_showAtLeast_17 : decode cX12_showAtLeast 17 = .ok (.iaload, 1) := by decide +kernel
theorem dX12_showAtLeast_18 : decode cX12_showAtLeast 18 = .ok (.iload_n 1, 1) := by decide +kernel
theorem dX12_showAtLeast_19 : decode cX12_showAtLeast 19 = .ok (.if_icmp .ne 51, 3) := by decide +kernel
theorem dX12_showAtLeast_22 : decode cX12_showAtLeast 22 = .ok (.iload_n 2, 1) := by decide +kernel
theorem dX12_showAtLeast_23 : decode cX12_showAtLeast 23 = .ok (.aload_n 0, 1) := by decide +kernel
theorem dX12_showAtLeast_24 : decode cX12_showAtLeast 24 = .ok (.iload_n 3, 1) := by decide +kernel
theorem dX12_showAtLeast_25 : decode cX12_showAtLeast 25 = .ok (.invokevirtual 146, 3) := by decide +kernel
theorem dX12_showAtLeast_28 : decode cX12_showAtLeast 28 = .ok (.if_icmp .ge 7, 3) := by decide +kernel
theorem dX12_showAtLeast_31 : decode cX12_showAtLeast 31 = .ok (.iload_n 2, 1) := by decide +kernel
theorem dX12_showAtLeast_32 : decode cX12_showAtLeast 32 = .ok (.goto 8, 3) := by decide +kernel
theorem dX12_showAtLeast_35 : decode cX12_showAtLeast 35 = .ok (.aload_n 0, 1) := by decide +kernel
theorem dX12_showAtLeast_36 : decode cX12_showAtLeast 36 = .ok (.iload_n 3, 1) := by decide +kernel
theorem dX12_showAtLeast_37 : decode cX12_showAtLeast 37 = .ok (.invokevirtual 146, 3) := by decide +kernel
theorem dX12_showAtLeast_40 : decode cX12_showAtLeast 40 = .ok (.istore 4, 2) := by decide +kernel
theorem dX12_showAtLeast_42 : decode cX12_showAtLeast 42 = .ok (.aload_n 0, 1) := by decide +kernel
theorem dX12_showAtLeast_43 : decode cX12_showAtLeast 43 = .ok (.getfield 28, 3) := by decide +kernel
theorem dX12_showAtLeast_46 : decode cX12_showAtLeast 46 = .ok (.iload_n 3, 1) := by decide +kernel
theorem dX12_showAtLeast_47 : decode cX12_showAtLeast 47 = .ok (.aload_n 0, 1) := by decide +kernel
theorem dX12_showAtLeast_48 : decode cX12_showAtLeast 48 = .ok (.getfield 41, 3) := by decide +kernel
theorem dX12_showAtLeast_51 : decode cX12_showAtLeast 51 = .ok (.iload_n 3, 1) := by decide +kernel
theorem dX12_showAtLeast_52 : decode cX12_showAtLeast 52 = .ok (.iaload, 1) := by decide +kernel
theorem dX12_showAtLeast_53 : decode cX12_showAtLeast 53 = .ok (.iload 4, 2) := by decide +kernel
theorem dX12_showAtLeast_55 : decode cX12_showAtLeast 55 = .ok (.if_icmp .le 12, 3) := by decide +kernel
theorem dX12_showAtLeast_58 : decode cX12_showAtLeast 58 = .ok (.aload_n 0, 1) := by decide +kernel
theorem dX12_showAtLeast_59 : decode cX12_showAtLeast 59 = .ok (.getfield 41, 3) := by decide +kernel
theorem dX12_showAtLeast_62 : decode cX12_showAtLeast 62 = .ok (.iload_n 3, 1) := by decide +kernel
theorem dX12_showAtLeast_63 : decode cX12_showAtLeast 63 = .ok (.iaload, 1) := by decide +kernel
theorem dX12_showAtLeast_64 : decode cX12_showAtLeast 64 = .ok (.goto 5, 3) := by decide +kernel
theorem dX12_showAtLeast_67 : decode cX12_showAtLeast 67 = .ok (.iload 4, 2) := by decide +kernel
theorem dX12_showAtLeast_69 : decode cX12_showAtLeast 69 = .ok (.iastore, 1) := by decide +kernel
theorem dX12_showAtLeast_70 : decode cX12_showAtLeast 70 = .ok (.iinc 3 1, 3) := by decide +kernel
theorem dX12_showAtLeast_73 : decode cX12_showAtLeast 73 = .ok (.goto (-71), 3) := by decide +kernel
theorem dX12_showAtLeast_76 : decode cX12_showAtLeast 76 = .ok (.return_, 1) := by decide +kernel
set_option maxRecDepth 20000 in
theorem ggX12_addNames_X12_showAtLeast : GoodIn wsX12_addNames wsX12_showAtLeast := goodIn_r _ [8, 1, 9, 3, 2, 10, 11, 12, 7, 13, 36, 37, 38, 39, 40, 41, 42, 43, 44, 45, 46, 47, 48, 49, 50, 51, 52, 53, 54] (by decide +kernel) (by decide +kernel)
set_option maxRecDepth 20000 in
theorem gX12_addNames_X12_showAtLeast : GoodIn wsX12_addNames (wsV RX12 180 RX12 yX12_showAtLeast wsX12_showAtLeast) := goodIn_app (goodIn_of _ (by decide +kernel)) ggX12_addNames_X12_showAtLeast
set_option maxRecDepth 20000 in
theorem ggX12_addNames_X12_labelsOf : GoodIn wsX12_addNames wsX12_labelsOf := goodIn_r _ [17, 1, 9, 18, 19, 20, 7, 21, 22, 23, 24, 25, 26, 27, 28, 29, 30, 3, 31, 10, 11, 12, 13, 32, 33, 34, 35, 36, 37, 38, 39, 40, 41, 42, 43, 44, 45, 46, 47, 48, 49, 50, 51, 52, 53, 54] (by decide +kernel) (by decide +kernel)
set_option maxRecDepth 20000 in
theorem gX12_addNames_X12_labelsOf : GoodIn wsX12_addNames (wsV RX12 184 RX12 yX12_labelsOf wsX12_labelsOf) := goodIn_app (goodIn_of _ (by decide +kernel)) ggX12_addNames_X12_labelsOf
theorem dX12_addNames_0 : decode cX12_addNames 0 = .ok (.iconst 0, 1) := by decide +kernel
theorem dX12_addNames_1 : decode cX12_addNames 1 = .ok (.istore_n 2, 1) := by decide +kernel
theorem dX12_addNames_2 : decode cX12_addNames 2 = .ok (.iload_n 2, 1) := by decide +kernel
theorem dX12_addNames_3 : decode cX12_addNames 3 = .ok (.aload_n 0, 1) := by decide +kernel
theorem dX12_addNames_4 : decode cX12_addNames 4 = .ok (.getfield 7, 3) := by decide +kernel
theorem dX12_addNames_7 : decode cX12_addNames 7 = .ok (.iconst 0, 1) := by decide +kernel
theorem dX12_addNames_8 : decode cX12_addNames 8 = .ok (.iaload, 1) := by decide +kernel
theorem dX12_addNames_9 : decode cX12_addNames 9 = .ok (.if_icmp .ge 21, 3) := by decide +kernel
theorem dX12_addNames_12 : decode cX12_addNames 12 = .ok (.aload_n 0, 1) := by decide +kernel
theorem dX12_addNames_13 : decode cX12_addNames 13 = .ok (.getfield 41, 3) := by decide +kernel
theorem dX12_addNames_16 : decode cX12_addNames 16 = .ok (.iload_n 2, 1) := by decide +kernel
theorem dX12_addNames_17 : decode cX12_addNames 17 = .ok (.aload_n 0, 1) := by decide +kernel
theorem dX12_addNames_18 : decode cX12_addNames 18 = .ok (.getfield 28, 3) := by decide +kernel
theorem dX12_addNames_21 : decode cX12_addNames 21 = .ok (.iload_n 2, 1) := by decide +kernel
theorem dX12_addNames_22 : decode cX12_addNames 22 = .ok (.iaload, 1) := by decide +kernel
theorem dX12_addNames_23 : decode cX12_addNames 23 = .ok (.iastore, 1) := by decide +kernel
theorem dX12_addNames_24 : decode cX12_addNames 24 = .ok (.iinc 2 1, 3) := by decide +kernel
theorem dX12_addNames_27 : decode cX12_addNames 27 = .ok (.goto (-25), 3) := by decide +kernel
theorem dX12_addNames_30 : decode cX12_addNames 30 = .ok (.aload_n 0, 1) := by decide +kernel
theorem dX12_addNames_31 : decode cX12_addNames 31 = .ok (.getfield 7, 3) := by decide +kernel
theorem dX12_addNames_34 : decode cX12_addNames 34 = .ok (.bipush 59, 2) := by decide +kernel
theorem dX12_addNames_36 : decode cX12_addNames 36 = .ok (.iaload, 1) := by decide +kernel
theorem dX12_addNames_37 : decode cX12_addNames 37 = .ok (.istore_n 2, 1) := by decide +kernel
theorem dX12_addNames_38 : decode cX12_addNames 38 = .ok (.iconst 0, 1) := by decide +kernel
theorem dX12_addNames_39 : decode cX12_addNames 39 = .ok (.istore_n 3, 1) := by decide +kernel
theorem dX12_addNames_40 : decode cX12_addNames 40 = .ok (.aload_n 0, 1) := by decide +kernel
theorem dX12_addNames_41 : decode cX12_addNames 41 = .ok (.getfield 7, 3) := by decide +kernel
theorem dX12_addNames_44 : decode cX12_addNames 44 = .ok (.bipush 59, 2) := by decide +kernel
theorem dX12_addNames_46 : decode cX12_addNames 46 = .ok (.iaload, 1) := by decide +kernel
theorem dX12_addNames_47 : decode cX12_addNames 47 = .ok (.istore 4, 2) := by decide +kernel
theorem dX12_addNames_49 : decode cX12_addNames 49 = .ok (.iload 4, 2) := by decide +kernel
theorem dX12_addNames_51 : decode cX12_addNames 51 = .ok (.iconst 5, 1) := by decide +kernel
theorem dX12_addNames_52 : decode cX12_addNames 52 = .ok (.if_icmp .ge 49, 3) := by decide +kernel
theorem dX12_addNames_55 : decode cX12_addNames 55 = .ok (.aload_n 0, 1) := by decide +kernel
theorem dX12_addNames_56 : decode cX12_addNames 56 = .ok (.iload_n 1, 1) := by decide +kernel
theorem dX12_addNames_57 : decode cX12_addNames 57 = .ok (.iload 4, 2) := by decide +kernel
theorem dX12_addNames_59 : decode cX12_addNames 59 = .ok (.invokevirtual 180, 3) := by decide +kernel
theorem dX12_addNames_62 : decode cX12_addNames 62 = .ok (.aload_n 0, 1) := by decide +kernel
theorem dX12_addNames_63 : decode cX12_addNames 63 = .ok (.iload_n 1, 1) := by decide +kernel
theorem dX12_addNames_64 : decode cX12_addNames 64 = .ok (.invokevirtual 184, 3) := by decide +kernel
theorem dX12_addNames_67 : decode cX12_addNames 67 = .ok (.istore 5, 2) := by decide +kernel
theorem dX12_addNames_69 : decode cX12_addNames 69 = .ok (.iload 5, 2) := by decide +kernel
theorem dX12_addNames_71 : decode cX12_addNames 71 = .ok (.iload_n 3, 1) := by decide +kernel
theorem dX12_addNames_72 : decode cX12_addNames 72 = .ok (.if_icmp .le 8, 3) := by decide +kernel
theorem dX12_addNames_75 : decode cX12_addNames 75 = .ok (.iload 4, 2) := by decide +kernel
theorem dX12_addNames_77 : decode cX12_addNames 77 = .ok (.goto 4, 3) := by decide +kernel
theorem dX12_addNames_80 : decode cX12_addNames 80 = .ok (.iload_n 2, 1) := by decide +kernel
theorem dX12_addNames_81 : decode cX12_addNames 81 = .ok (.istore_n 2, 1) := by decide +kernel
theorem dX12_addNames_82 : decode cX12_addNames 82 = .ok (.iload 5, 2) := by decide +kernel
theorem dX12_addNames_84 : decode cX12_addNames 84 = .ok (.iload_n 3, 1) := by decide +kernel
theorem dX12_addNames_85 : decode cX12_addNames 85 = .ok (.if_icmp .le 8, 3) := by decide +kernel
theorem dX12_addNames_88 : decode cX12_addNames 88 = .ok (.iload 5, 2) := by decide +kernel
theorem dX12_addNames_90 : decode cX12_addNames 90 = .ok (.goto 4, 3) := by decide +kernel
theorem dX12_addNames_93 : decode cX12_addNames 93 = .ok (.iload_n 3, 1) := by decide +kernel
theorem dX12_addNames_94 : decode cX12_addNames 94 = .ok (.istore_n 3, 1) := by decide +kernel
theorem dX12_addNames_95 : decode cX12_addNames 95 = .ok (.iinc 4 1, 3) := by decide +kernel
theorem dX12_addNames_98 : decode cX12_addNames 98 = .ok (.goto (-49), 3) := by decide +kernel
theorem dX12_addNames_101 : decode cX12_addNames 101 = .ok (.aload_n 0, 1) := by decide +kernel
theorem dX12_addNames_102 : decode cX12_addNames 102 = .ok (.iload_n 1, 1) := by decide +kernel
theorem dX12_addNames_103 : decode cX12_addNames 103 = .ok (.iload_n 2, 1) := by decide +kernel
theorem dX12_addNames_104 : decode cX12_addNames 104 = .ok (.invokevirtual 180, 3) := by decide +kernel
theorem dX12_addNames_107 : decode cX12_addNames 107 = .ok (.return_, 1) := by decide +kernel
set_option maxRecDepth 20000 in
theorem ggX12_addInitials_X12_labelsOf : GoodIn wsX12_addInitials wsX12_labelsOf := goodIn_r _ [8, 1, 3, 9, 10, 11, 7, 12, 13, 14, 15, 16, 17, 18, 19, 20, 21, 22, 2, 23, 24, 25, 26, 27, 28, 29, 30, 31, 32, 33, 34, 35, 36, 37, 38, 39, 40, 41, 42, 43, 44, 45, 46, 47, 48, 49] (by decide +kernel) (by decide +kernel)
set_option maxRecDepth 20000 in
theorem gX12_addInitials_X12_labelsOf : GoodIn wsX12_addInitials (wsV RX12 184 RX12 yX12_labelsOf wsX12_labelsOf) := goodIn_app (goodIn_of _ (by decide +kernel)) ggX12_addInitials_X12_labelsOf
theorem dX12_addInitials_0 : decode cX12_addInitials 0 = .ok (.iconst 0, 1) := by decide +kernel
theorem dX12_addInitials_1 : decode cX12_addInitials 1 = .ok (.istore_n 2, 1) := by decide +kernel
theorem dX12_addInitials_2 : decode cX12_addInitials 2 = .ok (.iload_n 2, 1) := by decide +kernel
theorem dX12_addInitials_3 : decode cX12_addInitials 3 = .ok (.aload_n 0, 1) := by decide +kernel
theorem dX12_addInitials_4 : decode cX12_addInitials 4 = .ok (.getfield 7, 3) := by decide +kernel
theorem dX12_addInitials_7 : decode cX12_addInitials 7 = .ok (.iconst 0, 1) := by decide +kernel
theorem dX12_addInitials_8 : decode cX12_addInitials 8 = .ok (.iaload, 1) := by decide +kernel
theorem dX12_addInitials_9 : decode cX12_addInitials 9 = .ok (.if_icmp .ge 39, 3) := by decide +kernel
theorem dX12_addInitials_12 : decode cX12_addInitials 12 = .ok (.aload_n 0, 1) := by decide +kernel
theorem dX12_addInitials_13 : decode cX12_addInitials 13 = .ok (.getfield 31, 3) := by decide +kernel
theorem dX12_addInitials_16 : decode cX12_addInitials 16 = .ok (.iload_n 2, 1) := by decide +kernel
theorem dX12_addInitials_17 : decode cX12_addInitials 17 = .ok (.aload_n 0, 1) := by decide +kernel
theorem dX12_addInitials_18 : decode cX12_addInitials 18 = .ok (.getfield 31, 3) := by decide +kernel
theorem dX12_addInitials_21 : decode cX12_addInitials 21 = .ok (.iload_n 2, 1) := by decide +kernel
theorem dX12_addInitials_22 : decode cX12_addInitials 22 = .ok (.baload, 1) := by decide +kernel
theorem dX12_addInitials_23 : decode cX12_addInitials 23 = .ok (.ifCond .ne 13, 3) := by decide +kernel
theorem dX12_addInitials_26 : decode cX12_addInitials 26 = .ok (.aload_n 0, 1) := by decide +kernel
theorem dX12_addInitials_27 : decode cX12_addInitials 27 = .ok (.getfield 38, 3) := by decide +kernel
theorem dX12_addInitials_30 : decode cX12_addInitials 30 = .ok (.iload_n 2, 1) := by decide +kernel
theorem dX12_addInitials_31 : decode cX12_addInitials 31 = .ok (.iaload, 1) := by decide +kernel
theorem dX12_addInitials_32 : decode cX12_addInitials 32 = .ok (.iload_n 1, 1) := by decide +kernel
theorem dX12_addInitials_33 : decode cX12_addInitials 33 = .ok (.if_icmp .ne 7, 3) := by decide +kernel
theorem dX12_addInitials_36 : decode cX12_addInitials 36 = .ok (.iconst 1, 1) := by decide +kernel
theorem dX12_addInitials_37 : decode cX12_addInitials 37 = .ok (.goto 4, 3) := by decide +kernel
theorem dX12_addInitials_40 : decode cX12_addInitials 40 = .ok (.iconst 0, 1) := by decide +kernel
theorem dX12_addInitials_41 : decode cX12_addInitials 41 = .ok (.bastore, 1) := by decide +kernel
theorem dX12_addInitials_42 : decode cX12_addInitials 42 = .ok (.iinc 2 1, 3) := by decide +kernel
theorem dX12_addInitials_45 : decode cX12_addInitials 45 = .ok (.goto (-43), 3) := by decide +kernel
theorem dX12_addInitials_48 : decode cX12_addInitials 48 = .ok (.aload_n 0, 1) := by decide +kernel
theorem dX12_addInitials_49 : decode cX12_addInitials 49 = .ok (.iload_n 1, 1) := by decide +kernel
theorem dX12_addInitials_50 : decode cX12_addInitials 50 = .ok (.invokevirtual 184, 3) := by decide +kernel
theorem dX12_addInitials_53 : decode cX12_addInitials 53 = .ok (.iconst 1, 1) := by decide +kernel
theorem dX12_addInitials_54 : decode cX12_addInitials 54 = .ok (.if_icmp .le 7, 3) := by decide +kernel
theorem dX12_addInitials_57 : decode cX12_addInitials 57 = .ok (.iconst 1, 1) := by decide +kernel
theorem dX12_addInitials_58 : decode cX12_addInitials 58 = .ok (.goto 4, 3) := by decide +kernel
theorem dX12_addInitials_61 : decode cX12_addInitials 61 = .ok (.iconst 0, 1) := by decide +kernel
theorem dX12_addInitials_62 : decode cX12_addInitials 62 = .ok (.istore_n 2, 1) := by decide +kernel
theorem dX12_addInitials_63 : decode cX12_addInitials 63 = .ok (.iconst 0, 1) := by decide +kernel
theorem dX12_addInitials_64 : decode cX12_addInitials 64 = .ok (.istore_n 3, 1) := by decide +kernel
theorem dX12_addInitials_65 : decode cX12_addInitials 65 = .ok (.iload_n 3, 1) := by decide +kernel
theorem dX12_addInitials_66 : decode cX12_addInitials 66 = .ok (.aload_n 0, 1) := by decide +kernel
theorem dX12_addInitials_67 : decode cX12_addInitials 67 = .ok (.getfield 7, 3) := by decide +kernel
theorem dX12_addInitials_70 : decode cX12_addInitials 70 = .ok (.iconst 0, 1) := by decide +kernel
theorem dX12_addInitials_71 : decode cX12_addInitials 71 = .ok (.iaload, 1) := by decide +kernel
theorem dX12_addInitials_72 : decode cX12_addInitials 72 = .ok (.if_icmp .ge 43, 3) := by decide +kernel
theorem dX12_addInitials_75 : decode cX12_addInitials 75 = .ok (.aload_n 0, 1) := by decide +kernel
theorem dX12_addInitials_76 : decode cX12_addInitials 76 = .ok (.getfield 31, 3) := by decide +kernel
theorem dX12_addInitials_79 : decode cX12_addInitials 79 = .ok (.iload_n 3, 1) := by decide +kernel
theorem dX12_addInitials_80 : decode cX12_addInitials 80 = .ok (.aload_n 0, 1) := by decide +kernel
theorem dX12_addInitials_81 : decode cX12_addInitials 81 = .ok (.getfield 31, 3) := by decide +kernel
theorem dX12_addInitials_84 : decode cX12_addInitials 84 = .ok (.iload_n 3, 1) := by decide +kernel
theorem dX12_addInitials_85 : decode cX12_addInitials 85 = .ok (.baload, 1) := by decide +kernel
theorem dX12_addInitials_86 : decode cX12_addInitials 86 = .ok (.ifCond .eq 21, 3) := by decide +kernel
theorem dX12_addInitials_89 : decode cX12_addInitials 89 = .ok (.aload_n 0, 1) := by decide +kernel
theorem dX12_addInitials_90 : decode cX12_addInitials 90 = .ok (.getfield 38, 3) := by decide +kernel
theorem dX12_addInitials_93 : decode cX12_addInitials 93 = .ok (.iload_n 3, 1) := by decide +kernel
theorem dX12_addInitials_94 : decode cX12_addInitials 94 = .ok (.iaload, 1) := by decide +kernel
theorem dX12_addInitials_95 : decode cX12_addInitials 95 = .ok (.iload_n 1, 1) := by decide +kernel
theorem dX12_addInitials_96 : decode cX12_addInitials 96 = .ok (.if_icmp .ne 7, 3) := by decide +kernel
theorem dX12_addInitials_99 : decode cX12_addInitials 99 = .ok (.iload_n 2, 1) := by decide +kernel
theorem dX12_addInitials_100 : decode cX12_addInitials 100 = .ok (.ifCond .eq 7, 3) := by decide +kernel
theorem dX12_addInitials_103 : decode cX12_addInitials 103 = .ok (.iconst 1, 1) := by decide +kernel
theorem dX12_addInitials_104 : decode cX12_addInitials 104 = .ok (.goto 4, 3) := by decide +kernel
theorem dX12_addInitials_107 : decode cX12_addInitials 107 = .ok (.iconst 0, 1) := by decide +kernel
theorem dX12_addInitials_108 : decode cX12_addInitials 108 = .ok (.bastore, 1) := by decide +kernel
theorem dX12_addInitials_109 : decode cX12_addInitials 109 = .ok (.iinc 3 1, 3) := by decide +kernel
theorem dX12_addInitials_112 : decode cX12_addInitials 112 = .ok (.goto (-47), 3) := by decide +kernel
theorem dX12_addInitials_115 : decode cX12_addInitials 115 = .ok (.return_, 1) := by decide +kernel
theorem dX12_addSuffixes_0 : decode cX12_addSuffixes 0 = .ok (.iconst 0, 1) := by decide +kernel
theorem dX12_addSuffixes_1 : decode cX12_addSuffixes 1 = .ok (.istore_n 2, 1) := by decide +kernel
theorem dX12_addSuffixes_2 : decode cX12_addSuffixes 2 = .ok (.iconst 0, 1) := by decide +kernel
theorem dX12_addSuffixes_3 : decode cX12_addSuffixes 3 = .ok (.istore_n 3, 1) := by decide +kernel
theorem dX12_addSuffixes_4 : decode cX12_addSuffixes 4 = .ok (.iload_n 3, 1) := by decide +kernel
theorem dX12_addSuffixes_5 : decode cX12_addSuffixes 5 = .ok (.aload_n 0, 1) := by decide +kernel
theorem dX12_addSuffixes_6 : decode cX12_addSuffixes 6 = .ok (.getfield 7, 3) := by decide +kernel
theorem dX12_addSuffixes_9 : decode cX12_addSuffixes 9 = .ok (.iconst 0, 1) := by decide +kernel
theorem dX12_addSuffixes_10 : decode cX12_addSuffixes 10 = .ok (.iaload, 1) := by decide +kernel
theorem dX12_addSuffixes_11 : decode cX12_addSuffixes 11 = .ok (.if_icmp .ge 42, 3) := by decide +kernel
theorem dX12_addSuffixes_14 : decode cX12_addSuffixes 14 = .ok (.aload_n 0, 1) := by decide +kernel
theorem dX12_addSuffixes_15 : decode cX12_addSuffixes 15 = .ok (.getfield 38, 3) := by decide +kernel
theorem dX12_addSuffixes_18 : decode cX12_addSuffixes 18 = .ok (.aload_n 0, 1) := by decide +kernel
theorem dX12_addSuffixes_19 : decode cX12_addSuffixes 19 = .ok (.getfield 22, 3) := by decide +kernel
theorem dX12_addSuffixes_22 : decode cX12_addSuffixes 22 = .ok (.iload_n 3, 1) := by decide +kernel
theorem dX12_addSuffixes_23 : decode cX12_addSuffixes 23 = .ok (.iaload, 1) := by decide +kernel
theorem dX12_addSuffixes_24 : decode cX12_addSuffixes 24 = .ok (.iaload, 1) := by decide +kernel
theorem dX12_addSuffixes_25 : decode cX12_addSuffixes 25 = .ok (.iload_n 1, 1) := by decide +kernel
theorem dX12_addSuffixes_26 : decode cX12_addSuffixes 26 = .ok (.if_icmp .ne 21, 3) := by decide +kernel
theorem dX12_addSuffixes_29 : decode cX12_addSuffixes 29 = .ok (.aload_n 0, 1) := by decide +kernel
theorem dX12_addSuffixes_30 : decode cX12_addSuffixes 30 = .ok (.getfield 35, 3) := by decide +kernel
theorem dX12_addSuffixes_33 : decode cX12_addSuffixes 33 = .ok (.aload_n 0, 1) := by decide +kernel
theorem dX12_addSuffixes_34 : decode cX12_addSuffixes 34 = .ok (.getfield 22, 3) := by decide +kernel
theorem dX12_addSuffixes_37 : decode cX12_addSuffixes 37 = .ok (.iload_n 3, 1) := by decide +kernel
theorem dX12_addSuffixes_38 : decode cX12_addSuffixes 38 = .ok (.iaload, 1) := by decide +kernel
theorem dX12_addSuffixes_39 : decode cX12_addSuffixes 39 = .ok (.bipush 97, 2) := by decide +kernel
theorem dX12_addSuffixes_41 : decode cX12_addSuffixes 41 = .ok (.iload_n 2, 1) := by decide +kernel
theorem dX12_addSuffixes_42 : decode cX12_addSuffixes 42 = .ok (.iadd, 1) := by decide +kernel
theorem dX12_addSuffixes_43 : decode cX12_addSuffixes 43 = .ok (.iastore, 1) := by decide +kernel
theorem dX12_addSuffixes_44 : decode cX12_addSuffixes 44 = .ok (.iinc 2 1, 3) := by decide +kernel
theorem dX12_addSuffixes_47 : decode cX12_addSuffixes 47 = .ok (.iinc 3 1, 3) := by decide +kernel
theorem dX12_addSuffixes_50 : decode cX12_addSuffixes 50 = .ok (.goto (-46), 3) := by decide +kernel
theorem dX12_addSuffixes_53 : decode cX12_addSuffixes 53 = .ok (.return_, 1) := by decide +kernel
set_option maxRecDepth 20000 in
theorem ggX12_layLabels_X12_layNumbers : GoodIn wsX12_layLabels wsX12_layNumbers := goodIn_r _ [9, 1, 10, 11, 12, 13, 14, 8, 15, 16, 17, 18, 19, 20, 21, 22, 23, 24, 25, 26, 27, 28, 29, 30, 31, 32, 33, 34, 35, 36, 37, 38, 39, 40, 41, 42, 43, 44, 45, 46, 47, 86, 87, 88, 89, 90, 91, 92, 93, 94, 95, 96, 97, 98, 99, 100, 101, 102, 103, 104] (by decide +kernel) (by decide +kernel)
set_option maxRecDepth 20000 in
theorem gX12_layLabels_X12_layNumbers : GoodIn wsX12_layLabels (wsV RX12 108 RX12 yX12_layNumbers wsX12_layNumbers) := goodIn_app (goodIn_of _ (by decide +kernel)) ggX12_layLabels_X12_layNumbers
set_option maxRecDepth 20000 in
theorem ggX12_layLabels_X12_authors : GoodIn wsX12_layLabels wsX12_authors := goodIn_r _ [27, 1, 86, 87, 88, 89, 90, 91, 92, 93, 94, 95, 96, 97, 98, 99, 100, 101, 102, 103, 104] (by decide +kernel) (by decide +kernel)
set_option maxRecDepth 20000 in
theorem gX12_layLabels_X12_authors : GoodIn wsX12_layLabels (wsV RX12 146 RX12 yX12_authors wsX12_authors) := goodIn_app (goodIn_of _ (by decide +kernel)) ggX12_layLabels_X12_authors
set_option maxRecDepth 20000 in
theorem ggX12_layLabels_X12_layGroups : GoodIn wsX12_layLabels wsX12_layGroups := goodIn_r _ [51, 1, 52, 53, 54, 55, 8, 56, 4, 32, 33, 34, 35, 57, 58, 59, 60, 2, 3, 24, 25, 26, 27, 28, 29, 30, 31, 86, 87, 88, 89, 90, 91, 92, 93, 94, 95, 96, 97, 98, 99, 100, 101, 102, 103, 104] (by decide +kernel) (by decide +kernel)
set_option maxRecDepth 20000 in
theorem gX12_layLabels_X12_layGroups : GoodIn wsX12_layLabels (wsV RX12 187 RX12 yX12_layGroups wsX12_layGroups) := goodIn_app (goodIn_of _ (by decide +kernel)) ggX12_layLabels_X12_layGroups
set_option maxRecDepth 20000 in
theorem ggX12_layLabels_X12_sizeOf : GoodIn wsX12_layLabels wsX12_sizeOf := goodIn_r _ [64, 1, 52, 86, 87, 88, 89, 90, 91, 92, 93, 94, 95, 96, 97, 98, 99, 100, 101, 102, 103, 104] (by decide +kernel) (by decide +kernel)
set_option maxRecDepth 20000 in
theorem gX12_layLabels_X12_sizeOf : GoodIn wsX12_layLabels (wsV RX12 190 RX12 yX12_sizeOf wsX12_sizeOf) := goodIn_app (goodIn_of _ (by decide +kernel)) ggX12_layLabels_X12_sizeOf
set_option maxRecDepth 20000 in
theorem ggX12_layLabels_X12_addNames : GoodIn wsX12_layLabels wsX12_addNames := goodIn_r _ [68, 1, 69, 2, 70, 71, 72, 8, 73, 52, 24, 25, 26, 27, 74, 75, 76, 77, 53, 54, 55, 56, 4, 32, 33, 34, 35, 57, 58, 59, 60, 3, 28, 29, 30, 31, 86, 87, 88, 89, 90, 91, 92, 93, 94, 95, 96, 97, 98, 99, 100, 101, 102, 103, 104] (by decide +kernel) (by decide +kernel)
set_option maxRecDepth 20000 in
theorem gX12_layLabels_X12_addNames : GoodIn wsX12_layLabels (wsV RX12 193 RX12 yX12_addNames wsX12_addNames) := goodIn_app (goodIn_of _ (by decide +kernel)) ggX12_layLabels_X12_addNames
set_option maxRecDepth 20000 in
theorem ggX12_layLabels_X12_addInitials : GoodIn wsX12_layLabels wsX12_addInitials := goodIn_r _ [81, 1, 3, 52, 74, 75, 76, 8, 77, 53, 54, 55, 56, 4, 32, 33, 34, 35, 57, 58, 59, 60, 2, 24, 25, 26, 27, 28, 29, 30, 31, 86, 87, 88, 89, 90, 91, 92, 93, 94, 95, 96, 97, 98, 99, 100, 101, 102, 103, 104] (by decide +kernel) (by decide +kernel)
set_option maxRecDepth 20000 in
theorem gX12_layLabels_X12_addInitials : GoodIn wsX12_layLabels (wsV RX12 197 RX12 yX12_addInitials wsX12_addInitials) := goodIn_app (goodIn_of _ (by decide +kernel)) ggX12_layLabels_X12_addInitials
set_option maxRecDepth 20000 in
theorem ggX12_layLabels_X12_addSuffixes : GoodIn wsX12_layLabels wsX12_addSuffixes := goodIn_r _ [85, 1, 52, 11, 4, 86, 87, 88, 89, 90, 91, 92, 93, 94, 95, 96, 97, 98, 99, 100, 101, 102, 103, 104] (by decide +kernel) (by decide +kernel)
set_option maxRecDepth 20000 in
theorem gX12_layLabels_X12_addSuffixes : GoodIn wsX12_layLabels (wsV RX12 200 RX12 yX12_addSuffixes wsX12_addSuffixes) := goodIn_app (goodIn_of _ (by decide +kernel)) ggX12_layLabels_X12_addSuffixes
theorem dX12_layLabels_0 : decode cX12_layLabels 0 = .ok (.aload_n 0, 1) := by decide +kernel
theorem dX12_layLabels_1 : decode cX12_layLabels 1 = .ok (.invokevirtual 108, 3) := by decide +kernel
theorem dX12_layLabels_4 : decode cX12_layLabels 4 = .ok (.iconst 0, 1) := by decide +kernel
theorem dX12_layLabels_5 : decode cX12_layLabels 5 = .ok (.istore_n 1, 1) := by decide +kernel
theorem dX12_layLabels_6 : decode cX12_layLabels 6 = .ok (.iload_n 1, 1) := by decide +kernel
theorem dX12_layLabels_7 : decode cX12_layLabels 7 = .ok (.aload_n 0, 1) := by decide +kernel
theorem dX12_layLabels_8 : decode cX12_layLabels 8 = .ok (.getfield 7, 3) := by decide +kernel
theorem dX12_layLabels_11 : decode cX12_layLabels 11 = .ok (.iconst 0, 1) := by decide +kernel
theorem dX12_layLabels_12 : decode cX12_layLabels 12 = .ok (.iaload, 1) := by decide +kernel
theorem dX12_layLabels_13 : decode cX12_layLabels 13 = .ok (.if_icmp .ge 95, 3) := by decide +kernel
theorem dX12_layLabels_16 : decode cX12_layLabels 16 = .ok (.aload_n 0, 1) := by decide +kernel
theorem dX12_layLabels_17 : decode cX12_layLabels 17 = .ok (.getfield 7, 3) := by decide +kernel
theorem dX12_layLabels_20 : decode cX12_layLabels 20 = .ok (.bipush 58, 2) := by decide +kernel
theorem dX12_layLabels_22 : decode cX12_layLabels 22 = .ok (.iaload, 1) := by decide +kernel
theorem dX12_layLabels_23 : decode cX12_layLabels 23 = .ok (.ifCond .le 22, 3) := by decide +kernel
theorem dX12_layLabels_26 : decode cX12_layLabels 26 = .ok (.aload_n 0, 1) := by decide +kernel
theorem dX12_layLabels_27 : decode cX12_layLabels 27 = .ok (.iload_n 1, 1) := by decide +kernel
theorem dX12_layLabels_28 : decode cX12_layLabels 28 = .ok (.invokevirtual 146, 3) := by decide +kernel
theorem dX12_layLabels_31 : decode cX12_layLabels 31 = .ok (.aload_n 0, 1) := by decide +kernel
theorem dX12_layLabels_32 : decode cX12_layLabels 32 = .ok (.getfield 7, 3) := by decide +kernel
theorem dX12_layLabels_35 : decode cX12_layLabels 35 = .ok (.bipush 58, 2) := by decide +kernel
theorem dX12_layLabels_37 : decode cX12_layLabels 37 = .ok (.iaload, 1) := by decide +kernel
theorem dX12_layLabels_38 : decode cX12_layLabels 38 = .ok (.if_icmp .lt 7, 3) := by decide +kernel
theorem dX12_layLabels_41 : decode cX12_layLabels 41 = .ok (.iconst 1, 1) := by decide +kernel
theorem dX12_layLabels_42 : decode cX12_layLabels 42 = .ok (.goto 4, 3) := by decide +kernel
theorem dX12_layLabels_45 : decode cX12_layLabels 45 = .ok (.iconst 0, 1) := by decide +kernel
theorem dX12_layLabels_46 : decode cX12_layLabels 46 = .ok (.istore_n 2, 1) := by decide +kernel
theorem dX12_layLabels_47 : decode cX12_layLabels 47 = .ok (.aload_n 0, 1) := by decide +kernel
theorem dX12_layLabels_48 : decode cX12_layLabels 48 = .ok (.getfield 28, 3) := by decide +kernel
theorem dX12_layLabels_51 : decode cX12_layLabels 51 = .ok (.iload_n 1, 1) := by decide +kernel
theorem dX12_layLabels_52 : decode cX12_layLabels 52 = .ok (.iload_n 2, 1) := by decide +kernel
theorem dX12_layLabels_53 : decode cX12_layLabels 53 = .ok (.ifCond .eq 28, 3) := by decide +kernel
theorem dX12_layLabels_56 : decode cX12_layLabels 56 = .ok (.aload_n 0, 1) := by decide +kernel
theorem dX12_layLabels_57 : decode cX12_layLabels 57 = .ok (.getfield 7, 3) := by decide +kernel
theorem dX12_layLabels_60 : decode cX12_layLabels 60 = .ok (.bipush 59, 2) := by decide +kernel
theorem dX12_layLabels_62 : decode cX12_layLabels 62 = .ok (.iaload, 1) := by decide +kernel
theorem dX12_layLabels_63 : decode cX12_layLabels 63 = .ok (.aload_n 0, 1) := by decide +kernel
theorem dX12_layLabels_64 : decode cX12_layLabels 64 = .ok (.iload_n 1, 1) := by decide +kernel
theorem dX12_layLabels_65 : decode cX12_layLabels 65 = .ok (.invokevirtual 146, 3) := by decide +kernel
theorem dX12_layLabels_68 : decode cX12_layLabels 68 = .ok (.if_icmp .ge 13, 3) := by decide +kernel
theorem dX12_layLabels_71 : decode cX12_layLabels 71 = .ok (.aload_n 0, 1) := by decide +kernel
theorem dX12_layLabels_72 : decode cX12_layLabels 72 = .ok (.getfield 7, 3) := by decide +kernel
theorem dX12_layLabels_75 : decode cX12_layLabels 75 = .ok (.bipush 59, 2) := by decide +kernel
theorem dX12_layLabels_77 : decode cX12_layLabels 77 = .ok (.iaload, 1) := by decide +kernel
theorem dX12_layLabels_78 : decode cX12_layLabels 78 = .ok (.goto 8, 3) := by decide +kernel
theorem dX12_layLabels_81 : decode cX12_layLabels 81 = .ok (.aload_n 0, 1) := by decide +kernel
theorem dX12_layLabels_82 : decode cX12_layLabels 82 = .ok (.iload_n 1, 1) := by decide +kernel
theorem dX12_layLabels_83 : decode cX12_layLabels 83 = .ok (.invokevirtual 146, 3) := by decide +kernel
theorem dX12_layLabels_86 : decode cX12_layLabels 86 = .ok (.iastore, 1) := by decide +kernel
theorem dX12_layLabels_87 : decode cX12_layLabels 87 = .ok (.aload_n 0, 1) := by decide +kernel
theorem dX12_layLabels_88 : decode cX12_layLabels 88 = .ok (.getfield 31, 3) := by decide +kernel
theorem dX12_layLabels_91 : decode cX12_layLabels 91 = .ok (.iload_n 1, 1) := by decide +kernel
theorem dX12_layLabels_92 : decode cX12_layLabels 92 = .ok (.iconst 0, 1) := by decide +kernel
theorem dX12_layLabels_93 : decode cX12_layLabels 93 = .ok (.bastore, 1) := by decide +kernel
theorem dX12_layLabels_94 : decode cX12_layLabels 94 = .ok (.aload_n 0, 1) := by decide +kernel
theorem dX12_layLabels_95 : decode cX12_layLabels 95 = .ok (.getfield 35, 3) := by decide +kernel
theorem dX12_layLabels_98 : decode cX12_layLabels 98 = .ok (.iload_n 1, 1) := by decide +kernel
theorem dX12_layLabels_99 : decode cX12_layLabels 99 = .ok (.bipush (-9), 2) := by decide +kernel
theorem dX12_layLabels_101 : decode cX12_layLabels 101 = .ok (.iastore, 1) := by decide +kernel
theorem dX12_layLabels_102 : decode cX12_layLabels 102 = .ok (.iinc 1 1, 3) := by decide +kernel
theorem dX12_layLabels_105 : decode cX12_layLabels 105 = .ok (.goto (-99), 3) := by decide +kernel
theorem dX12_layLabels_108 : decode cX12_layLabels 108 = .ok (.iconst 0, 1) := by decide +kernel
theorem dX12_layLabels_109 : decode cX12_layLabels 109 = .ok (.istore_n 1, 1) := by decide +kernel
theorem dX12_layLabels_110 : decode cX12_layLabels 110 = .ok (.iload_n 1, 1) := by decide +kernel
theorem dX12_layLabels_111 : decode cX12_layLabels 111 = .ok (.iconst 3, 1) := by decide +kernel
theorem dX12_layLabels_112 : decode cX12_layLabels 112 = .ok (.if_icmp .ge 85, 3) := by decide +kernel
theorem dX12_layLabels_115 : decode cX12_layLabels 115 = .ok (.aload_n 0, 1) := by decide +kernel
theorem dX12_layLabels_116 : decode cX12_layLabels 116 = .ok (.invokevirtual 187, 3) := by decide +kernel
theorem dX12_layLabels_119 : decode cX12_layLabels 119 = .ok (.iconst 0, 1) := by decide +kernel
theorem dX12_layLabels_120 : decode cX12_layLabels 120 = .ok (.istore_n 2, 1) := by decide +kernel
theorem dX12_layLabels_121 : decode cX12_layLabels 121 = .ok (.iload_n 2, 1) := by decide +kernel
theorem dX12_layLabels_122 : decode cX12_layLabels 122 = .ok (.aload_n 0, 1) := by decide +kernel
theorem dX12_layLabels_123 : decode cX12_layLabels 123 = .ok (.getfield 7, 3) := by decide +kernel
theorem dX12_layLabels_126 : decode cX12_layLabels 126 = .ok (.iconst 0, 1) := by decide +kernel
theorem dX12_layLabels_127 : decode cX12_layLabels 127 = .ok (.iaload, 1) := by decide +kernel
theorem dX12_layLabels_128 : decode cX12_layLabels 128 = .ok (.if_icmp .ge 63, 3) := by decide +kernel
theorem dX12_layLabels_131 : decode cX12_layLabels 131 = .ok (.aload_n 0, 1) := by decide +kernel
theorem dX12_layLabels_132 : decode cX12_layLabels 132 = .ok (.getfield 7, 3) := by decide +kernel
theorem dX12_layLabels_135 : decode cX12_layLabels 135 = .ok (.bipush 60, 2) := by decide +kernel
theorem dX12_layLabels_137 : decode cX12_layLabels 137 = .ok (.iaload, 1) := by decide +kernel
theorem dX12_layLabels_138 : decode cX12_layLabels 138 = .ok (.iload_n 1, 1) := by decide +kernel
theorem dX12_layLabels_139 : decode cX12_layLabels 139 = .ok (.ishr, 1) := by decide +kernel
theorem dX12_layLabels_140 : decode cX12_layLabels 140 = .ok (.iconst 1, 1) := by decide +kernel
theorem dX12_layLabels_141 : decode cX12_layLabels 141 = .ok (.iand, 1) := by decide +kernel
theorem dX12_layLabels_142 : decode cX12_layLabels 142 = .ok (.iconst 1, 1) := by decide +kernel
theorem dX12_layLabels_143 : decode cX12_layLabels 143 = .ok (.if_icmp .ne 48, 3) := by decide +kernel
theorem dX12_layLabels_146 : decode cX12_layLabels 146 = .ok (.aload_n 0, 1) := by decide +kernel
theorem dX12_layLabels_147 : decode cX12_layLabels 147 = .ok (.iload_n 2, 1) := by decide +kernel
theorem dX12_layLabels_148 : decode cX12_layLabels 148 = .ok (.invokevirtual 190, 3) := by decide +kernel
theorem dX12_layLabels_151 : decode cX12_layLabels 151 = .ok (.iconst 1, 1) := by decide +kernel
theorem dX12_layLabels_152 : decode cX12_layLabels 152 = .ok (.if_icmp .le 33, 3) := by decide +kernel
theorem dX12_layLabels_155 : decode cX12_layLabels 155 = .ok (.iload_n 1, 1) := by decide +kernel
theorem dX12_layLabels_156 : decode cX12_layLabels 156 = .ok (.ifCond .ne 11, 3) := by decide +kernel
theorem dX12_layLabels_159 : decode cX12_layLabels 159 = .ok (.aload_n 0, 1) := by decide +kernel
theorem dX12_layLabels_160 : decode cX12_layLabels 160 = .ok (.iload_n 2, 1) := by decide +kernel
theorem dX12_layLabels_161 : decode cX12_layLabels 161 = .ok (.invokevirtual 193, 3) := by decide +kernel
theorem dX12_layLabels_164 : decode cX12_layLabels 164 = .ok (.goto 21, 3) := by decide +kernel
theorem dX12_layLabels_167 : decode cX12_layLabels 167 = .ok (.iload_n 1, 1) := by decide +kernel
theorem dX12_layLabels_168 : decode cX12_layLabels 168 = .ok (.iconst 1, 1) := by decide +kernel
theorem dX12_layLabels_169 : decode cX12_layLabels 169 = .ok (.if_icmp .ne 11, 3) := by decide +kernel
theorem dX12_layLabels_172 : decode cX12_layLabels 172 = .ok (.aload_n 0, 1) := by decide +kernel
theorem dX12_layLabels_173 : decode cX12_layLabels 173 = .ok (.iload_n 2, 1) := by decide +kernel
theorem dX12_layLabels_174 : decode cX12_layLabels 174 = .ok (.invokevirtual 197, 3) := by decide +kernel
theorem dX12_layLabels_177 : decode cX12_layLabels 177 = .ok (.goto 8, 3) := by decide +kernel
theorem dX12_layLabels_180 : decode cX12_layLabels 180 = .ok (.aload_n 0, 1) := by decide +kernel
theorem dX12_layLabels_181 : decode cX12_layLabels 181 = .ok (.iload_n 2, 1) := by decide +kernel
theorem dX12_layLabels_182 : decode cX12_layLabels 182 = .ok (.invokevirtual 200, 3) := by decide +kernel
theorem dX12_layLabels_185 : decode cX12_layLabels 185 = .ok (.iinc 2 1, 3) := by decide +kernel
theorem dX12_layLabels_188 : decode cX12_layLabels 188 = .ok (.goto (-67), 3) := by decide +kernel
theorem dX12_layLabels_191 : decode cX12_layLabels 191 = .ok (.iinc 1 1, 3) := by decide +kernel
theorem dX12_layLabels_194 : decode cX12_layLabels 194 = .ok (.goto (-84), 3) := by decide +kernel
theorem dX12_layLabels_197 : decode cX12_layLabels 197 = .ok (.return_, 1) := by decide +kernel
set_option maxRecDepth 20000 in
theorem ggX12_shownAuthors_X12_isWork : GoodIn wsX12_shownAuthors wsX12_isWork := goodIn_r _ [6, 7, 8, 9, 5, 10, 97, 98, 99, 100, 101, 102, 103, 104, 105, 106, 107, 108, 109, 110, 111, 112, 113, 114, 115] (by decide +kernel) (by decide +kernel)
set_option maxRecDepth 20000 in
theorem gX12_shownAuthors_X12_isWork : GoodIn wsX12_shownAuthors (wsV RX12 116 RX12 yX12_isWork wsX12_isWork) := goodIn_app (goodIn_of _ (by decide +kernel)) ggX12_shownAuthors_X12_isWork
set_option maxRecDepth 20000 in
theorem ggX12_shownAuthors_X12_layLabels : GoodIn wsX12_shownAuthors wsX12_layLabels := goodIn_r _ [14, 7, 1, 15, 16, 17, 18, 19, 5, 20, 21, 22, 23, 24, 25, 26, 27, 28, 29, 30, 31, 32, 33, 34, 35, 36, 37, 38, 39, 40, 41, 42, 43, 44, 45, 46, 47, 48, 49, 50, 51, 52, 53, 54, 55, 56, 57, 58, 59, 60, 61, 62, 63, 64, 65, 66, 67, 68, 69, 70, 71, 72, 73, 74, 75, 76, 77, 78, 79, 80, 81, 82, 83, 84, 85, 86, 87, 88, 89, 90, 91, 92, 93, 94, 95, 96, 97, 98, 99, 100, 101, 102, 103, 104, 105, 106, 107, 108, 109, 110, 111, 112, 113, 114, 115] (by decide +kernel) (by decide +kernel)
set_option maxRecDepth 20000 in
theorem gX12_shownAuthors_X12_layLabels : GoodIn wsX12_shownAuthors (wsV RX12 203 RX12 yX12_layLabels wsX12_layLabels) := goodIn_app (goodIn_of _ (by decide +kernel)) ggX12_shownAuthors_X12_layLabels
theorem dX12_shownAuthors_0 : decode cX12_shownAuthors 0 = .ok (.aload_n 0, 1) := by decide +kernel
theorem dX12_shownAuthors_1 : decode cX12_shownAuthors 1 = .ok (.iload_n 1, 1) := by decide +kernel
theorem dX12_shownAuthors_2 : decode cX12_shownAuthors 2 = .ok (.invokevirtual 116, 3) := by decide +kernel
theorem dX12_shownAuthors_5 : decode cX12_shownAuthors 5 = .ok (.ifCond .ne 5, 3) := by decide +kernel
theorem dX12_shownAuthors_8 : decode cX12_shownAuthors 8 = .ok (.iconst (-1), 1) := by decide +kernel
theorem dX12_shownAuthors_9 : decode cX12_shownAuthors 9 = .ok (.ireturn, 1) := by decide +kernel
theorem dX12_shownAuthors_10 : decode cX12_shownAuthors 10 = .ok (.aload_n 0, 1) := by decide +kernel
theorem dX12_shownAuthors_11 : decode cX12_shownAuthors 11 = .ok (.invokevirtual 203, 3) := by decide +kernel
theorem dX12_shownAuthors_14 : decode cX12_shownAuthors 14 = .ok (.aload_n 0, 1) := by decide +kernel
theorem dX12_shownAuthors_15 : decode cX12_shownAuthors 15 = .ok (.getfield 28, 3) := by decide +kernel
theorem dX12_shownAuthors_18 : decode cX12_shownAuthors 18 = .ok (.iload_n 1, 1) := by decide +kernel
theorem dX12_shownAuthors_19 : decode cX12_shownAuthors 19 = .ok (.iaload, 1) := by decide +kernel
theorem dX12_shownAuthors_20 : decode cX12_shownAuthors 20 = .ok (.ireturn, 1) := by decide +kernel
set_option maxRecDepth 20000 in
theorem ggX12_showsInitials_X12_isWork : GoodIn wsX12_showsInitials wsX12_isWork := goodIn_r _ [6, 7, 8, 9, 5, 10, 97, 98, 99, 100, 101, 102, 103, 104, 105, 106, 107, 108, 109, 110, 111, 112, 113, 114, 115] (by decide +kernel) (by decide +kernel)
set_option maxRecDepth 20000 in
theorem gX12_showsInitials_X12_isWork : GoodIn wsX12_showsInitials (wsV RX12 116 RX12 yX12_isWork wsX12_isWork) := goodIn_app (goodIn_of _ (by decide +kernel)) ggX12_showsInitials_X12_isWork
set_option maxRecDepth 20000 in
theorem ggX12_showsInitials_X12_layLabels : GoodIn wsX12_showsInitials wsX12_layLabels := goodIn_r _ [14, 7, 15, 1, 16, 17, 18, 19, 5, 20, 21, 22, 23, 24, 25, 26, 27, 28, 29, 30, 31, 32, 33, 34, 35, 36, 37, 38, 39, 40, 41, 42, 43, 44, 45, 46, 47, 48, 49, 50, 51, 52, 53, 54, 55, 56, 57, 58, 59, 60, 61, 62, 63, 64, 65, 66, 67, 68, 69, 70, 71, 72, 73, 74, 75, 76, 77, 78, 79, 80, 81, 82, 83, 84, 85, 86, 87, 88, 89, 90, 91, 92, 93, 94, 95, 96, 97, 98, 99, 100, 101, 102, 103, 104, 105, 106, 107, 108, 109, 110, 111, 112, 113, 114, 115] (by decide +kernel) (by decide +kernel)
set_option maxRecDepth 20000 in
theorem gX12_showsInitials_X12_layLabels : GoodIn wsX12_showsInitials (wsV RX12 203 RX12 yX12_layLabels wsX12_layLabels) := goodIn_app (goodIn_of _ (by decide +kernel)) ggX12_showsInitials_X12_layLabels
theorem dX12_showsInitials_0 : decode cX12_showsInitials 0 = .ok (.aload_n 0, 1) := by decide +kernel
theorem dX12_showsInitials_1 : decode cX12_showsInitials 1 = .ok (.iload_n 1, 1) := by decide +kernel
theorem dX12_showsInitials_2 : decode cX12_showsInitials 2 = .ok (.invokevirtual 116, 3) := by decide +kernel
theorem dX12_showsInitials_5 : decode cX12_showsInitials 5 = .ok (.ifCond .ne 5, 3) := by decide +kernel
theorem dX12_showsInitials_8 : decode cX12_showsInitials 8 = .ok (.iconst (-1), 1) := by decide +kernel
theorem dX12_showsInitials_9 : decode cX12_showsInitials 9 = .ok (.ireturn, 1) := by decide +kernel
theorem dX12_showsInitials_10 : decode cX12_showsInitials 10 = .ok (.aload_n 0, 1) := by decide +kernel
theorem dX12_showsInitials_11 : decode cX12_showsInitials 11 = .ok (.invokevirtual 203, 3) := by decide +kernel
theorem dX12_showsInitials_14 : decode cX12_showsInitials 14 = .ok (.aload_n 0, 1) := by decide +kernel
theorem dX12_showsInitials_15 : decode cX12_showsInitials 15 = .ok (.getfield 31, 3) := by decide +kernel
theorem dX12_showsInitials_18 : decode cX12_showsInitials 18 = .ok (.iload_n 1, 1) := by decide +kernel
theorem dX12_showsInitials_19 : decode cX12_showsInitials 19 = .ok (.baload, 1) := by decide +kernel
theorem dX12_showsInitials_20 : decode cX12_showsInitials 20 = .ok (.ifCond .eq 7, 3) := by decide +kernel
theorem dX12_showsInitials_23 : decode cX12_showsInitials 23 = .ok (.iconst 1, 1) := by decide +kernel
theorem dX12_showsInitials_24 : decode cX12_showsInitials 24 = .ok (.goto 4, 3) := by decide +kernel
theorem dX12_showsInitials_27 : decode cX12_showsInitials 27 = .ok (.iconst 0, 1) := by decide +kernel
theorem dX12_showsInitials_28 : decode cX12_showsInitials 28 = .ok (.ireturn, 1) := by decide +kernel
set_option maxRecDepth 20000 in
theorem ggX12_suffixOf_X12_isWork : GoodIn wsX12_suffixOf wsX12_isWork := goodIn_r _ [6, 7, 8, 9, 5, 10, 97, 98, 99, 100, 101, 102, 103, 104, 105, 106, 107, 108, 109, 110, 111, 112, 113, 114, 115] (by decide +kernel) (by decide +kernel)
set_option maxRecDepth 20000 in
theorem gX12_suffixOf_X12_isWork : GoodIn wsX12_suffixOf (wsV RX12 116 RX12 yX12_isWork wsX12_isWork) := goodIn_app (goodIn_of _ (by decide +kernel)) ggX12_suffixOf_X12_isWork
set_option maxRecDepth 20000 in
theorem ggX12_suffixOf_X12_layLabels : GoodIn wsX12_suffixOf wsX12_layLabels := goodIn_r _ [14, 7, 15, 16, 1, 17, 18, 19, 5, 20, 21, 22, 23, 24, 25, 26, 27, 28, 29, 30, 31, 32, 33, 34, 35, 36, 37, 38, 39, 40, 41, 42, 43, 44, 45, 46, 47, 48, 49, 50, 51, 52, 53, 54, 55, 56, 57, 58, 59, 60, 61, 62, 63, 64, 65, 66, 67, 68, 69, 70, 71, 72, 73, 74, 75, 76, 77, 78, 79, 80, 81, 82, 83, 84, 85, 86, 87, 88, 89, 90, 91, 92, 93, 94, 95, 96, 97, 98, 99, 100, 101, 102, 103, 104, 105, 106, 107, 108, 109, 110, 111, 112, 113, 114, 115] (by decide +kernel) (by decide +kernel)
set_option maxRecDepth 20000 in
theorem gX12_suffixOf_X12_layLabels : GoodIn wsX12_suffixOf (wsV RX12 203 RX12 yX12_layLabels wsX12_layLabels) := goodIn_app (goodIn_of _ (by decide +kernel)) ggX12_suffixOf_X12_layLabels
theorem dX12_suffixOf_0 : decode cX12_suffixOf 0 = .ok (.aload_n 0, 1) := by decide +kernel
theorem dX12_suffixOf_1 : decode cX12_suffixOf 1 = .ok (.iload_n 1, 1) := by decide +kernel
theorem dX12_suffixOf_2 : decode cX12_suffixOf 2 = .ok (.invokevirtual 116, 3) := by decide +kernel
theorem dX12_suffixOf_5 : decode cX12_suffixOf 5 = .ok (.ifCond .ne 5, 3) := by decide +kernel
theorem dX12_suffixOf_8 : decode cX12_suffixOf 8 = .ok (.iconst (-1), 1) := by decide +kernel
theorem dX12_suffixOf_9 : decode cX12_suffixOf 9 = .ok (.ireturn, 1) := by decide +kernel
theorem dX12_suffixOf_10 : decode cX12_suffixOf 10 = .ok (.aload_n 0, 1) := by decide +kernel
theorem dX12_suffixOf_11 : decode cX12_suffixOf 11 = .ok (.invokevirtual 203, 3) := by decide +kernel
theorem dX12_suffixOf_14 : decode cX12_suffixOf 14 = .ok (.aload_n 0, 1) := by decide +kernel
theorem dX12_suffixOf_15 : decode cX12_suffixOf 15 = .ok (.getfield 35, 3) := by decide +kernel
theorem dX12_suffixOf_18 : decode cX12_suffixOf 18 = .ok (.iload_n 1, 1) := by decide +kernel
theorem dX12_suffixOf_19 : decode cX12_suffixOf 19 = .ok (.iaload, 1) := by decide +kernel
theorem dX12_suffixOf_20 : decode cX12_suffixOf 20 = .ok (.ireturn, 1) := by decide +kernel
set_option maxRecDepth 20000 in
theorem ggX12_ambiguousWith_X12_isWork : GoodIn wsX12_ambiguousWith wsX12_isWork := goodIn_r _ [6, 1, 7, 8, 5, 9, 97, 98, 99, 100, 101, 102, 103, 104, 105, 106, 107, 108, 109, 110, 111, 112, 113, 114, 115] (by decide +kernel) (by decide +kernel)
set_option maxRecDepth 20000 in
theorem gX12_ambiguousWith_X12_isWork : GoodIn wsX12_ambiguousWith (wsV RX12 116 RX12 yX12_isWork wsX12_isWork) := goodIn_app (goodIn_of _ (by decide +kernel)) ggX12_ambiguousWith_X12_isWork
set_option maxRecDepth 20000 in
theorem ggX12_ambiguousWith_X12_layLabels : GoodIn wsX12_ambiguousWith wsX12_layLabels := goodIn_r _ [13, 1, 14, 15, 16, 17, 18, 19, 5, 20, 21, 22, 23, 24, 25, 26, 27, 28, 29, 30, 31, 32, 33, 34, 35, 36, 37, 38, 39, 40, 41, 42, 43, 44, 45, 46, 47, 48, 49, 50, 51, 52, 53, 54, 55, 56, 57, 58, 59, 60, 61, 62, 63, 64, 65, 66, 67, 68, 69, 70, 71, 72, 73, 74, 75, 76, 77, 78, 79, 80, 81, 82, 83, 84, 85, 86, 87, 88, 89, 90, 91, 92, 93, 94, 95, 96, 97, 98, 99, 100, 101, 102, 103, 104, 105, 106, 107, 108, 109, 110, 111, 112, 113, 114, 115] (by decide +kernel) (by decide +kernel)
set_option maxRecDepth 20000 in
theorem gX12_ambiguousWith_X12_layLabels : GoodIn wsX12_ambiguousWith (wsV RX12 203 RX12 yX12_layLabels wsX12_layLabels) := goodIn_app (goodIn_of _ (by decide +kernel)) ggX12_ambiguousWith_X12_layLabels
set_option maxRecDepth 20000 in
theorem ggX12_ambiguousWith_X12_haveOneLabel : GoodIn wsX12_ambiguousWith wsX12_haveOneLabel := goodIn_r _ [67, 16, 43, 44, 45, 5, 46, 1, 68, 69, 70, 71, 14, 15, 35, 36, 37, 38, 39, 40, 41, 42, 97, 98, 99, 100, 101, 102, 103, 104, 105, 106, 107, 108, 109, 110, 111, 112, 113, 114, 115] (by decide +kernel) (by decide +kernel)
set_option maxRecDepth 20000 in
theorem gX12_ambiguousWith_X12_haveOneLabel : GoodIn wsX12_ambiguousWith (wsV RX12 177 RX12 yX12_haveOneLabel wsX12_haveOneLabel) := goodIn_app (goodIn_of _ (by decide +kernel)) ggX12_ambiguousWith_X12_haveOneLabel
theorem dX12_ambiguousWith_0 : decode cX12_ambiguousWith 0 = .ok (.aload_n 0, 1) := by decide +kernel
theorem dX12_ambiguousWith_1 : decode cX12_ambiguousWith 1 = .ok (.iload_n 1, 1) := by decide +kernel
theorem dX12_ambiguousWith_2 : decode cX12_ambiguousWith 2 = .ok (.invokevirtual 116, 3) := by decide +kernel
theorem dX12_ambiguousWith_5 : decode cX12_ambiguousWith 5 = .ok (.ifCond .ne 5, 3) := by decide +kernel
theorem dX12_ambiguousWith_8 : decode cX12_ambiguousWith 8 = .ok (.iconst (-1), 1) := by decide +kernel
theorem dX12_ambiguousWith_9 : decode cX12_ambiguousWith 9 = .ok (.ireturn, 1) := by decide +kernel
theorem dX12_ambiguousWith_10 : decode cX12_ambiguousWith 10 = .ok (.aload_n 0, 1) := by decide +kernel
theorem dX12_ambiguousWith_11 : decode cX12_ambiguousWith 11 = .ok (.invokevirtual 203, 3) := by decide +kernel
theorem dX12_ambiguousWith_14 : decode cX12_ambiguousWith 14 = .ok (.iconst 0, 1) := by decide +kernel
theorem dX12_ambiguousWith_15 : decode cX12_ambiguousWith 15 = .ok (.istore_n 2, 1) := by decide +kernel
theorem dX12_ambiguousWith_16 : decode cX12_ambiguousWith 16 = .ok (.iconst 0, 1) := by decide +kernel
theorem dX12_ambiguousWith_17 : decode cX12_ambiguousWith 17 = .ok (.istore_n 3, 1) := by decide +kernel
theorem dX12_ambiguousWith_18 : decode cX12_ambiguousWith 18 = .ok (.iload_n 3, 1) := by decide +kernel
theorem dX12_ambiguousWith_19 : decode cX12_ambiguousWith 19 = .ok (.aload_n 0, 1) := by decide +kernel
theorem dX12_ambiguousWith_20 : decode cX12_ambiguousWith 20 = .ok (.getfield 7, 3) := by decide +kernel
theorem dX12_ambiguousWith_23 : decode cX12_ambiguousWith 23 = .ok (.iconst 0, 1) := by decide +kernel
theorem dX12_ambiguousWith_24 : decode cX12_ambiguousWith 24 = .ok (.iaload, 1) := by decide +kernel
theorem dX12_ambiguousWith_25 : decode cX12_ambiguousWith 25 = .ok (.if_icmp .ge 33, 3) := by decide +kernel
theorem dX12_ambiguousWith_28 : decode cX12_ambiguousWith 28 = .ok (.iload_n 2, 1) := by decide +kernel
theorem dX12_ambiguousWith_29 : decode cX12_ambiguousWith 29 = .ok (.iload_n 3, 1) := by decide +kernel
theorem dX12_ambiguousWith_30 : decode cX12_ambiguousWith 30 = .ok (.iload_n 1, 1) := by decide +kernel
theorem dX12_ambiguousWith_31 : decode cX12_ambiguousWith 31 = .ok (.if_icmp .eq 18, 3) := by decide +kernel
theorem dX12_ambiguousWith_34 : decode cX12_ambiguousWith 34 = .ok (.aload_n 0, 1) := by decide +kernel
theorem dX12_ambiguousWith_35 : decode cX12_ambiguousWith 35 = .ok (.iload_n 3, 1) := by decide +kernel
theorem dX12_ambiguousWith_36 : decode cX12_ambiguousWith 36 = .ok (.iload_n 1, 1) := by decide +kernel
theorem dX12_ambiguousWith_37 : decode cX12_ambiguousWith 37 = .ok (.invokevirtual 177, 3) := by decide +kernel
theorem dX12_ambiguousWith_40 : decode cX12_ambiguousWith 40 = .ok (.ifCond .eq 9, 3) := by decide +kernel
theorem dX12_ambiguousWith_43 : decode cX12_ambiguousWith 43 = .ok (.iconst 1, 1) := by decide +kernel
theorem dX12_ambiguousWith_44 : decode cX12_ambiguousWith 44 = .ok (.iload_n 3, 1) := by decide +kernel
theorem dX12_ambiguousWith_45 : decode cX12_ambiguousWith 45 = .ok (.ishl, 1) := by decide +kernel
theorem dX12_ambiguousWith_46 : decode cX12_ambiguousWith 46 = .ok (.goto 4, 3) := by decide +kernel
theorem dX12_ambiguousWith_49 : decode cX12_ambiguousWith 49 = .ok (.iconst 0, 1) := by decide +kernel
theorem dX12_ambiguousWith_50 : decode cX12_ambiguousWith 50 = .ok (.ior, 1) := by decide +kernel
theorem dX12_ambiguousWith_51 : decode cX12_ambiguousWith 51 = .ok (.istore_n 2, 1) := by decide +kernel
theorem dX12_ambiguousWith_52 : decode cX12_ambiguousWith 52 = .ok (.iinc 3 1, 3) := by decide +kernel
theorem dX12_ambiguousWith_55 : decode cX12_ambiguousWith 55 = .ok (.goto (-37), 3) := by decide +kernel
theorem dX12_ambiguousWith_58 : decode cX12_ambiguousWith 58 = .ok (.iload_n 2, 1) := by decide +kernel
theorem dX12_ambiguousWith_59 : decode cX12_ambiguousWith 59 = .ok (.ireturn, 1) := by decide +kernel
theorem dX12_put_0 : decode cX12_put 0 = .ok (.aload_n 0, 1) := by decide +kernel
theorem dX12_put_1 : decode cX12_put 1 = .ok (.getfield 44, 3) := by decide +kernel
theorem dX12_put_4 : decode cX12_put 4 = .ok (.aload_n 0, 1) := by decide +kernel
theorem dX12_put_5 : decode cX12_put 5 = .ok (.getfield 206, 3) := by decide +kernel
theorem dX12_put_8 : decode cX12_put 8 = .ok (.iload_n 1, 1) := by decide +kernel
theorem dX12_put_9 : decode cX12_put 9 = .ok (.iastore, 1) := by decide +kernel
theorem dX12_put_10 : decode cX12_put 10 = .ok (.aload_n 0, 1) := by decide +kernel
theorem dX12_put_11 : decode cX12_put 11 = .ok (.dup, 1) := by decide +kernel
theorem dX12_put_12 : decode cX12_put 12 = .ok (.getfield 206, 3) := by decide +kernel
theorem dX12_put_15 : decode cX12_put 15 = .ok (.iconst 1, 1) := by decide +kernel
theorem dX12_put_16 : decode cX12_put 16 = .ok (.iadd, 1) := by decide +kernel
theorem dX12_put_17 : decode cX12_put 17 = .ok (.putfield 206, 3) := by decide +kernel
theorem dX12_put_20 : decode cX12_put 20 = .ok (.return_, 1) := by decide +kernel
set_option maxRecDepth 20000 in
theorem ggX12_putAuthors_X12_put : GoodIn wsX12_putAuthors wsX12_put := goodIn_r _ [5, 6, 7, 13, 14, 15, 16, 17, 18, 19, 20, 21, 22, 23, 24, 25, 26, 27, 28, 29, 30, 31] (by decide +kernel) (by decide +kernel)
set_option maxRecDepth 20000 in
theorem gX12_putAuthors_X12_put : GoodIn wsX12_putAuthors (wsV RX12 209 RX12 yX12_put wsX12_put) := goodIn_app (goodIn_of _ (by decide +kernel)) ggX12_putAuthors_X12_put
set_option maxRecDepth 20000 in
theorem ggX12_putAuthors_X12_author : GoodIn wsX12_putAuthors wsX12_author := goodIn_r _ [11, 12, 13, 14, 15, 16, 17, 18, 19, 20, 21, 22, 23, 24, 25, 26, 27, 28, 29, 30, 31] (by decide +kernel) (by decide +kernel)
set_option maxRecDepth 20000 in
theorem gX12_putAuthors_X12_author : GoodIn wsX12_putAuthors (wsV RX12 149 RX12 yX12_author wsX12_author) := goodIn_app (goodIn_of _ (by decide +kernel)) ggX12_putAuthors_X12_author
theorem dX12_putAuthors_0 : decode cX12_putAuthors 0 = .ok (.iconst 0, 1) := by decide +kernel
theorem dX12_putAuthors_1 : decode cX12_putAuthors 1 = .ok (.istore 4, 2) := by decide +kernel
theorem dX12_putAuthors_3 : decode cX12_putAuthors 3 = .ok (.iload 4, 2) := by decide +kernel
theorem dX12_putAuthors_5 : decode cX12_putAuthors 5 = .ok (.iload_n 2, 1) := by decide +kernel
theorem dX12_putAuthors_6 : decode cX12_putAuthors 6 = .ok (.if_icmp .ge 58, 3) := by decide +kernel
theorem dX12_putAuthors_9 : decode cX12_putAuthors 9 = .ok (.iload 4, 2) := by decide +kernel
theorem dX12_putAuthors_11 : decode cX12_putAuthors 11 = .ok (.ifCond .le 9, 3) := by decide +kernel
theorem dX12_putAuthors_14 : decode cX12_putAuthors 14 = .ok (.aload_n 0, 1) := by decide +kernel
theorem dX12_putAuthors_15 : decode cX12_putAuthors 15 = .ok (.bipush 38, 2) := by decide +kernel
theorem dX12_putAuthors_17 : decode cX12_putAuthors 17 = .ok (.invokevirtual 209, 3) := by decide +kernel
theorem dX12_putAuthors_20 : decode cX12_putAuthors 20 = .ok (.aload_n 0, 1) := by decide +kernel
theorem dX12_putAuthors_21 : decode cX12_putAuthors 21 = .ok (.bipush 65, 2) := by decide +kernel
theorem dX12_putAuthors_23 : decode cX12_putAuthors 23 = .ok (.aload_n 0, 1) := by decide +kernel
theorem dX12_putAuthors_24 : decode cX12_putAuthors 24 = .ok (.iload_n 1, 1) := by decide +kernel
theorem dX12_putAuthors_25 : decode cX12_putAuthors 25 = .ok (.iload 4, 2) := by decide +kernel
theorem dX12_putAuthors_27 : decode cX12_putAuthors 27 = .ok (.invokevirtual 149, 3) := by decide +kernel
theorem dX12_putAuthors_30 : decode cX12_putAuthors 30 = .ok (.bipush 26, 2) := by decide +kernel
theorem dX12_putAuthors_32 : decode cX12_putAuthors 32 = .ok (.idiv, 1) := by decide +kernel
theorem dX12_putAuthors_33 : decode cX12_putAuthors 33 = .ok (.iadd, 1) := by decide +kernel
theorem dX12_putAuthors_34 : decode cX12_putAuthors 34 = .ok (.invokevirtual 209, 3) := by decide +kernel
theorem dX12_putAuthors_37 : decode cX12_putAuthors 37 = .ok (.iload_n 3, 1) := by decide +kernel
theorem dX12_putAuthors_38 : decode cX12_putAuthors 38 = .ok (.ifCond .eq 20, 3) := by decide +kernel
theorem dX12_putAuthors_41 : decode cX12_putAuthors 41 = .ok (.aload_n 0, 1) := by decide +kernel
theorem dX12_putAuthors_42 : decode cX12_putAuthors 42 = .ok (.bipush 97, 2) := by decide +kernel
theorem dX12_putAuthors_44 : decode cX12_putAuthors 44 = .ok (.aload_n 0, 1) := by decide +kernel
theorem dX12_putAuthors_45 : decode cX12_putAuthors 45 = .ok (.iload_n 1, 1) := by decide +kernel
theorem dX12_putAuthors_46 : decode cX12_putAuthors 46 = .ok (.iload 4, 2) := by decide +kernel
theorem dX12_putAuthors_48 : decode cX12_putAuthors 48 = .ok (.invokevirtual 149, 3) := by decide +kernel
theorem dX12_putAuthors_51 : decode cX12_putAuthors 51 = .ok (.bipush 26, 2) := by decide +kernel
theorem dX12_putAuthors_53 : decode cX12_putAuthors 53 = .ok (.irem, 1) := by decide +kernel
theorem dX12_putAuthors_54 : decode cX12_putAuthors 54 = .ok (.iadd, 1) := by decide +kernel
theorem dX12_putAuthors_55 : decode cX12_putAuthors 55 = .ok (.invokevirtual 209, 3) := by decide +kernel
theorem dX12_putAuthors_58 : decode cX12_putAuthors 58 = .ok (.iinc 4 1, 3) := by decide +kernel
theorem dX12_putAuthors_61 : decode cX12_putAuthors 61 = .ok (.goto (-58), 3) := by decide +kernel
theorem dX12_putAuthors_64 : decode cX12_putAuthors 64 = .ok (.return_, 1) := by decide +kernel
set_option maxRecDepth 20000 in
theorem ggX12_putNames_X12_putAuthors : GoodIn wsX12_putNames wsX12_putAuthors := goodIn_r _ [7, 8, 9, 10, 6, 11, 12, 13, 14, 15, 16, 17, 18, 23, 24, 25, 26, 27, 28, 29, 30, 31, 32, 33, 34, 35, 36, 37, 38, 39, 40, 41] (by decide +kernel) (by decide +kernel)
set_option maxRecDepth 20000 in
theorem gX12_putNames_X12_putAuthors : GoodIn wsX12_putNames (wsV RX12 212 RX12 yX12_putAuthors wsX12_putAuthors) := goodIn_app (goodIn_of _ (by decide +kernel)) ggX12_putNames_X12_putAuthors
set_option maxRecDepth 20000 in
theorem ggX12_putNames_X12_authors : GoodIn wsX12_putNames wsX12_authors := goodIn_r _ [22, 18, 23, 24, 25, 26, 27, 28, 29, 30, 31, 32, 33, 34, 35, 36, 37, 38, 39, 40, 41] (by decide +kernel) (by decide +kernel)
set_option maxRecDepth 20000 in
theorem gX12_putNames_X12_authors : GoodIn wsX12_putNames (wsV RX12 146 RX12 yX12_authors wsX12_authors) := goodIn_app (goodIn_of _ (by decide +kernel)) ggX12_putNames_X12_authors
set_option maxRecDepth 20000 in
theorem ggX12_putNames_X12_put : GoodIn wsX12_putNames wsX12_put := goodIn_r _ [11, 12, 13, 23, 24, 25, 26, 27, 28, 29, 30, 31, 32, 33, 34, 35, 36, 37, 38, 39, 40, 41] (by decide +kernel) (by decide +kernel)
set_option maxRecDepth 20000 in
theorem gX12_putNames_X12_put : GoodIn wsX12_putNames (wsV RX12 209 RX12 yX12_put wsX12_put) := goodIn_app (goodIn_of _ (by decide +kernel)) ggX12_putNames_X12_put
theorem dX12_putNames_0 : decode cX12_putNames 0 = .ok (.aload_n 0, 1) := by decide +kernel
theorem dX12_putNames_1 : decode cX12_putNames 1 = .ok (.iload_n 1, 1) := by decide +kernel
theorem dX12_putNames_2 : decode cX12_putNames 2 = .ok (.aload_n 0, 1) := by decide +kernel
theorem dX12_putNames_3 : decode cX12_putNames 3 = .ok (.getfield 28, 3) := by decide +kernel
theorem dX12_putNames_6 : decode cX12_putNames 6 = .ok (.iload_n 1, 1) := by decide +kernel
theorem dX12_putNames_7 : decode cX12_putNames 7 = .ok (.iaload, 1) := by decide +kernel
theorem dX12_putNames_8 : decode cX12_putNames 8 = .ok (.aload_n 0, 1) := by decide +kernel
theorem dX12_putNames_9 : decode cX12_putNames 9 = .ok (.getfield 31, 3) := by decide +kernel
theorem dX12_putNames_12 : decode cX12_putNames 12 = .ok (.iload_n 1, 1) := by decide +kernel
theorem dX12_putNames_13 : decode cX12_putNames 13 = .ok (.baload, 1) := by decide +kernel
theorem dX12_putNames_14 : decode cX12_putNames 14 = .ok (.invokevirtual 212, 3) := by decide +kernel
theorem dX12_putNames_17 : decode cX12_putNames 17 = .ok (.aload_n 0, 1) := by decide +kernel
theorem dX12_putNames_18 : decode cX12_putNames 18 = .ok (.getfield 28, 3) := by decide +kernel
theorem dX12_putNames_21 : decode cX12_putNames 21 = .ok (.iload_n 1, 1) := by decide +kernel
theorem dX12_putNames_22 : decode cX12_putNames 22 = .ok (.iaload, 1) := by decide +kernel
theorem dX12_putNames_23 : decode cX12_putNames 23 = .ok (.aload_n 0, 1) := by decide +kernel
theorem dX12_putNames_24 : decode cX12_putNames 24 = .ok (.iload_n 1, 1) := by decide +kernel
theorem dX12_putNames_25 : decode cX12_putNames 25 = .ok (.invokevirtual 146, 3) := by decide +kernel
theorem dX12_putNames_28 : decode cX12_putNames 28 = .ok (.if_icmp .ge 9, 3) := by decide +kernel
theorem dX12_putNames_31 : decode cX12_putNames 31 = .ok (.aload_n 0, 1) := by decide +kernel
theorem dX12_putNames_32 : decode cX12_putNames 32 = .ok (.bipush 43, 2) := by decide +kernel
theorem dX12_putNames_34 : decode cX12_putNames 34 = .ok (.invokevirtual 209, 3) := by decide +kernel
theorem dX12_putNames_37 : decode cX12_putNames 37 = .ok (.return_, 1) := by decide +kernel
set_option maxRecDepth 20000 in
theorem ggX12_putYear_X12_year : GoodIn wsX12_putYear wsX12_year := goodIn_r _ [5, 6, 13, 14, 15, 16, 17, 18, 19, 20, 21, 22, 23, 24, 25, 26, 27, 28, 29, 30, 31] (by decide +kernel) (by decide +kernel)
set_option maxRecDepth 20000 in
theorem gX12_putYear_X12_year : GoodIn wsX12_putYear (wsV RX12 155 RX12 yX12_year wsX12_year) := goodIn_app (goodIn_of _ (by decide +kernel)) ggX12_putYear_X12_year
set_option maxRecDepth 20000 in
theorem ggX12_putYear_X12_put : GoodIn wsX12_putYear wsX12_put := goodIn_r _ [10, 11, 12, 13, 14, 15, 16, 17, 18, 19, 20, 21, 22, 23, 24, 25, 26, 27, 28, 29, 30, 31] (by decide +kernel) (by decide +kernel)
set_option maxRecDepth 20000 in
theorem gX12_putYear_X12_put : GoodIn wsX12_putYear (wsV RX12 209 RX12 yX12_put wsX12_put) := goodIn_app (goodIn_of _ (by decide +kernel)) ggX12_putYear_X12_put
theorem dX12_putYear_0 : decode cX12_putYear 0 = .ok (.aload_n 0, 1) := by decide +kernel
theorem dX12_putYear_1 : decode cX12_putYear 1 = .ok (.bipush 48, 2) := by decide +kernel
theorem dX12_putYear_3 : decode cX12_putYear 3 = .ok (.aload_n 0, 1) := by decide +kernel
theorem dX12_putYear_4 : decode cX12_putYear 4 = .ok (.iload_n 1, 1) := by decide +kernel
theorem dX12_putYear_5 : decode cX12_putYear 5 = .ok (.invokevirtual 155, 3) := by decide +kernel
theorem dX12_putYear_8 : decode cX12_putYear 8 = .ok (.bipush 10, 2) := by decide +kernel
theorem dX12_putYear_10 : decode cX12_putYear 10 = .ok (.idiv, 1) := by decide +kernel
theorem dX12_putYear_11 : decode cX12_putYear 11 = .ok (.iadd, 1) := by decide +kernel
theorem dX12_putYear_12 : decode cX12_putYear 12 = .ok (.invokevirtual 209, 3) := by decide +kernel
theorem dX12_putYear_15 : decode cX12_putYear 15 = .ok (.aload_n 0, 1) := by decide +kernel
theorem dX12_putYear_16 : decode cX12_putYear 16 = .ok (.bipush 48, 2) := by decide +kernel
theorem dX12_putYear_18 : decode cX12_putYear 18 = .ok (.aload_n 0, 1) := by decide +kernel
theorem dX12_putYear_19 : decode cX12_putYear 19 = .ok (.iload_n 1, 1) := by decide +kernel
theorem dX12_putYear_20 : decode cX12_putYear 20 = .ok (.invokevirtual 155, 3) := by decide +kernel
theorem dX12_putYear_23 : decode cX12_putYear 23 = .ok (.bipush 10, 2) := by decide +kernel
theorem dX12_putYear_25 : decode cX12_putYear 25 = .ok (.irem, 1) := by decide +kernel
theorem dX12_putYear_26 : decode cX12_putYear 26 = .ok (.iadd, 1) := by decide +kernel
theorem dX12_putYear_27 : decode cX12_putYear 27 = .ok (.invokevirtual 209, 3) := by decide +kernel
theorem dX12_putYear_30 : decode cX12_putYear 30 = .ok (.return_, 1) := by decide +kernel
set_option maxRecDepth 20000 in
theorem ggX12_putSuffix_X12_put : GoodIn wsX12_putSuffix wsX12_put := goodIn_r _ [6, 7, 8, 9, 10, 11, 12, 13, 14, 15, 16, 17, 18, 19, 20, 21, 22, 23, 24, 25, 26, 27] (by decide +kernel) (by decide +kernel)
set_option maxRecDepth 20000 in
theorem gX12_putSuffix_X12_put : GoodIn wsX12_putSuffix (wsV RX12 209 RX12 yX12_put wsX12_put) := goodIn_app (goodIn_of _ (by decide +kernel)) ggX12_putSuffix_X12_put
theorem dX12_putSuffix_0 : decode cX12_putSuffix 0 = .ok (.aload_n 0, 1) := by decide +kernel
theorem dX12_putSuffix_1 : decode cX12_putSuffix 1 = .ok (.getfield 35, 3) := by decide +kernel
theorem dX12_putSuffix_4 : decode cX12_putSuffix 4 = .ok (.iload_n 1, 1) := by decide +kernel
theorem dX12_putSuffix_5 : decode cX12_putSuffix 5 = .ok (.iaload, 1) := by decide +kernel
theorem dX12_putSuffix_6 : decode cX12_putSuffix 6 = .ok (.bipush (-9), 2) := by decide +kernel
theorem dX12_putSuffix_8 : decode cX12_putSuffix 8 = .ok (.if_icmp .eq 13, 3) := by decide +kernel
theorem dX12_putSuffix_11 : decode cX12_putSuffix 11 = .ok (.aload_n 0, 1) := by decide +kernel
theorem dX12_putSuffix_12 : decode cX12_putSuffix 12 = .ok (.aload_n 0, 1) := by decide +kernel
theorem dX12_putSuffix_13 : decode cX12_putSuffix 13 = .ok (.getfield 35, 3) := by decide +kernel
theorem dX12_putSuffix_16 : decode cX12_putSuffix 16 = .ok (.iload_n 1, 1) := by decide +kernel
theorem dX12_putSuffix_17 : decode cX12_putSuffix 17 = .ok (.iaload, 1) := by decide +kernel
theorem dX12_putSuffix_18 : decode cX12_putSuffix 18 = .ok (.invokevirtual 209, 3) := by decide +kernel
theorem dX12_putSuffix_21 : decode cX12_putSuffix 21 = .ok (.return_, 1) := by decide +kernel
set_option maxRecDepth 20000 in
theorem ggX12_rankOf_X12_placeIn : GoodIn wsX12_rankOf wsX12_placeIn := goodIn_r _ [8] (by decide +kernel) (by decide +kernel)
set_option maxRecDepth 20000 in
theorem gX12_rankOf_X12_placeIn : GoodIn wsX12_rankOf (wsV RX12 170 RX12 yX12_placeIn wsX12_placeIn) := goodIn_app (goodIn_of _ (by decide +kernel)) ggX12_rankOf_X12_placeIn
theorem dX12_rankOf_0 : decode cX12_rankOf 0 = .ok (.aload_n 0, 1) := by decide +kernel
theorem dX12_rankOf_1 : decode cX12_rankOf 1 = .ok (.getfield 7, 3) := by decide +kernel
theorem dX12_rankOf_4 : decode cX12_rankOf 4 = .ok (.bipush 57, 2) := by decide +kernel
theorem dX12_rankOf_6 : decode cX12_rankOf 6 = .ok (.iaload, 1) := by decide +kernel
theorem dX12_rankOf_7 : decode cX12_rankOf 7 = .ok (.iconst 1, 1) := by decide +kernel
theorem dX12_rankOf_8 : decode cX12_rankOf 8 = .ok (.if_icmp .ne 15, 3) := by decide +kernel
theorem dX12_rankOf_11 : decode cX12_rankOf 11 = .ok (.aload_n 0, 1) := by decide +kernel
theorem dX12_rankOf_12 : decode cX12_rankOf 12 = .ok (.aload_n 0, 1) := by decide +kernel
theorem dX12_rankOf_13 : decode cX12_rankOf 13 = .ok (.getfield 25, 3) := by decide +kernel
theorem dX12_rankOf_16 : decode cX12_rankOf 16 = .ok (.iload_n 1, 1) := by decide +kernel
theorem dX12_rankOf_17 : decode cX12_rankOf 17 = .ok (.invokevirtual 170, 3) := by decide +kernel
theorem dX12_rankOf_20 : decode cX12_rankOf 20 = .ok (.goto 12, 3) := by decide +kernel
theorem dX12_rankOf_23 : decode cX12_rankOf 23 = .ok (.aload_n 0, 1) := by decide +kernel
theorem dX12_rankOf_24 : decode cX12_rankOf 24 = .ok (.aload_n 0, 1) := by decide +kernel
theorem dX12_rankOf_25 : decode cX12_rankOf 25 = .ok (.getfield 22, 3) := by decide +kernel
theorem dX12_rankOf_28 : decode cX12_rankOf 28 = .ok (.iload_n 1, 1) := by decide +kernel
theorem dX12_rankOf_29 : decode cX12_rankOf 29 = .ok (.invokevirtual 170, 3) := by decide +kernel
theorem dX12_rankOf_32 : decode cX12_rankOf 32 = .ok (.ireturn, 1) := by decide +kernel
set_option maxRecDepth 20000 in
theorem ggX12_layRow_X12_cites : GoodIn wsX12_layRow wsX12_cites := goodIn_r _ [7, 1, 22, 23, 24, 25, 26, 27, 28, 29, 30, 31, 32, 33, 34, 35, 36, 37, 38, 39, 40] (by decide +kernel) (by decide +kernel)
set_option maxRecDepth 20000 in
theorem gX12_layRow_X12_cites : GoodIn wsX12_layRow (wsV RX12 119 RX12 yX12_cites wsX12_cites) := goodIn_app (goodIn_of _ (by decide +kernel)) ggX12_layRow_X12_cites
set_option maxRecDepth 20000 in
theorem ggX12_layRow_X12_rankOf : GoodIn wsX12_layRow wsX12_rankOf := goodIn_r _ [11, 1, 12, 13, 14, 15, 16, 6, 17, 22, 23, 24, 25, 26, 27, 28, 29, 30, 31, 32, 33, 34, 35, 36, 37, 38, 39, 40] (by decide +kernel) (by decide +kernel)
set_option maxRecDepth 20000 in
theorem gX12_layRow_X12_rankOf : GoodIn wsX12_layRow (wsV RX12 216 RX12 yX12_rankOf wsX12_rankOf) := goodIn_app (goodIn_of _ (by decide +kernel)) ggX12_layRow_X12_rankOf
set_option maxRecDepth 20000 in
theorem ggX12_layRow_X12_cited : GoodIn wsX12_layRow wsX12_cited := goodIn_r _ [21, 1, 22, 23, 24, 25, 26, 27, 28, 29, 30, 31, 32, 33, 34, 35, 36, 37, 38, 39, 40] (by decide +kernel) (by decide +kernel)
set_option maxRecDepth 20000 in
theorem gX12_layRow_X12_cited : GoodIn wsX12_layRow (wsV RX12 122 RX12 yX12_cited wsX12_cited) := goodIn_app (goodIn_of _ (by decide +kernel)) ggX12_layRow_X12_cited
theorem dX12_layRow_0 : decode cX12_layRow 0 = .ok (.iconst 0, 1) := by decide +kernel
theorem dX12_layRow_1 : decode cX12_layRow 1 = .ok (.istore_n 2, 1) := by decide +kernel
theorem dX12_layRow_2 : decode cX12_layRow 2 = .ok (.iload_n 2, 1) := by decide +kernel
theorem dX12_layRow_3 : decode cX12_layRow 3 = .ok (.aload_n 0, 1) := by decide +kernel
theorem dX12_layRow_4 : decode cX12_layRow 4 = .ok (.iload_n 1, 1) := by decide +kernel
theorem dX12_layRow_5 : decode cX12_layRow 5 = .ok (.invokevirtual 119, 3) := by decide +kernel
theorem dX12_layRow_8 : decode cX12_layRow 8 = .ok (.if_icmp .ge 83, 3) := by decide +kernel
theorem dX12_layRow_11 : decode cX12_layRow 11 = .ok (.iload_n 2, 1) := by decide +kernel
theorem dX12_layRow_12 : decode cX12_layRow 12 = .ok (.istore_n 3, 1) := by decide +kernel
theorem dX12_layRow_13 : decode cX12_layRow 13 = .ok (.aload_n 0, 1) := by decide +kernel
theorem dX12_layRow_14 : decode cX12_layRow 14 = .ok (.getfield 7, 3) := by decide +kernel
theorem dX12_layRow_17 : decode cX12_layRow 17 = .ok (.bipush 63, 2) := by decide +kernel
theorem dX12_layRow_19 : decode cX12_layRow 19 = .ok (.iaload, 1) := by decide +kernel
theorem dX12_layRow_20 : decode cX12_layRow 20 = .ok (.iconst 1, 1) := by decide +kernel
theorem dX12_layRow_21 : decode cX12_layRow 21 = .ok (.if_icmp .ne 52, 3) := by decide +kernel
theorem dX12_layRow_24 : decode cX12_layRow 24 = .ok (.iload_n 3, 1) := by decide +kernel
theorem dX12_layRow_25 : decode cX12_layRow 25 = .ok (.ifCond .le 48, 3) := by decide +kernel
theorem dX12_layRow_28 : decode cX12_layRow 28 = .ok (.aload_n 0, 1) := by decide +kernel
theorem dX12_layRow_29 : decode cX12_layRow 29 = .ok (.aload_n 0, 1) := by decide +kernel
theorem dX12_layRow_30 : decode cX12_layRow 30 = .ok (.getfield 47, 3) := by decide +kernel
theorem dX12_layRow_33 : decode cX12_layRow 33 = .ok (.iload_n 3, 1) := by decide +kernel
theorem dX12_layRow_34 : decode cX12_layRow 34 = .ok (.iconst 1, 1) := by decide +kernel
theorem dX12_layRow_35 : decode cX12_layRow 35 = .ok (.isub, 1) := by decide +kernel
theorem dX12_layRow_36 : decode cX12_layRow 36 = .ok (.iaload, 1) := by decide +kernel
theorem dX12_layRow_37 : decode cX12_layRow 37 = .ok (.invokevirtual 216, 3) := by decide +kernel
theorem dX12_layRow_40 : decode cX12_layRow 40 = .ok (.aload_n 0, 1) := by decide +kernel
theorem dX12_layRow_41 : decode cX12_layRow 41 = .ok (.aload_n 0, 1) := by decide +kernel
theorem dX12_layRow_42 : decode cX12_layRow 42 = .ok (.iload_n 1, 1) := by decide +kernel
theorem dX12_layRow_43 : decode cX12_layRow 43 = .ok (.iload_n 2, 1) := by decide +kernel
theorem dX12_layRow_44 : decode cX12_layRow 44 = .ok (.invokevirtual 122, 3) := by decide +kernel
theorem dX12_layRow_47 : decode cX12_layRow 47 = .ok (.invokevirtual 216, 3) := by decide +kernel
theorem dX12_layRow_50 : decode cX12_layRow 50 = .ok (.if_icmp .le 23, 3) := by decide +kernel
theorem dX12_layRow_53 : decode cX12_layRow 53 = .ok (.aload_n 0, 1) := by decide +kernel
theorem dX12_layRow_54 : decode cX12_layRow 54 = .ok (.getfield 47, 3) := by decide +kernel
theorem dX12_layRow_57 : decode cX12_layRow 57 = .ok (.iload_n 3, 1) := by decide +kernel
theorem dX12_layRow_58 : decode cX12_layRow 58 = .ok (.aload_n 0, 1) := by decide +kernel
theorem dX12_layRow_59 : decode cX12_layRow 59 = .ok (.getfield 47, 3) := by decide +kernel
theorem dX12_layRow_62 : decode cX12_layRow 62 = .ok (.iload_n 3, 1) := by decide +kernel
theorem dX12_layRow_63 : decode cX12_layRow 63 = .ok (.iconst 1, 1) := by decide +kernel
theorem dX12_layRow_64 : decode cX12_layRow 64 = .ok (.isub, 1) := by decide +kernel
theorem dX12_layRow_65 : decode cX12_layRow 65 = .ok (.iaload, 1) := by decide +kernel
theorem dX12_layRow_66 : decode cX12_layRow 66 = .ok (.iastore, 1) := by decide +kernel
theorem dX12_layRow_67 : decode cX12_layRow 67 = .ok (.iinc 3 (-1), 3) := by decide +kernel
theorem dX12_layRow_70 : decode cX12_layRow 70 = .ok (.goto (-57), 3) := by decide +kernel
theorem dX12_layRow_73 : decode cX12_layRow 73 = .ok (.aload_n 0, 1) := by decide +kernel
theorem dX12_layRow_74 : decode cX12_layRow 74 = .ok (.getfield 47, 3) := by decide +kernel
theorem dX12_layRow_77 : decode cX12_layRow 77 = .ok (.iload_n 3, 1) := by decide +kernel
theorem dX12_layRow_78 : decode cX12_layRow 78 = .ok (.aload_n 0, 1) := by decide +kernel
theorem dX12_layRow_79 : decode cX12_layRow 79 = .ok (.iload_n 1, 1) := by decide +kernel
theorem dX12_layRow_80 : decode cX12_layRow 80 = .ok (.iload_n 2, 1) := by decide +kernel
theorem dX12_layRow_81 : decode cX12_layRow 81 = .ok (.invokevirtual 122, 3) := by decide +kernel
theorem dX12_layRow_84 : decode cX12_layRow 84 = .ok (.iastore, 1) := by decide +kernel
theorem dX12_layRow_85 : decode cX12_layRow 85 = .ok (.iinc 2 1, 3) := by decide +kernel
theorem dX12_layRow_88 : decode cX12_layRow 88 = .ok (.goto (-86), 3) := by decide +kernel
theorem dX12_layRow_91 : decode cX12_layRow 91 = .ok (.return_, 1) := by decide +kernel
set_option maxRecDepth 20000 in
theorem ggX12_putAuthorYear_X12_put : GoodIn wsX12_putAuthorYear wsX12_put := goodIn_r _ [8, 9, 10, 49, 50, 51, 52, 53, 54, 55, 56, 57, 58, 59, 60, 61, 62, 63, 64, 65, 66, 67] (by decide +kernel) (by decide +kernel)
set_option maxRecDepth 20000 in
theorem gX12_putAuthorYear_X12_put : GoodIn wsX12_putAuthorYear (wsV RX12 209 RX12 yX12_put wsX12_put) := goodIn_app (goodIn_of _ (by decide +kernel)) ggX12_putAuthorYear_X12_put
set_option maxRecDepth 20000 in
theorem ggX12_putAuthorYear_X12_cites : GoodIn wsX12_putAuthorYear wsX12_cites := goodIn_r _ [14, 2, 49, 50, 51, 52, 53, 54, 55, 56, 57, 58, 59, 60, 61, 62, 63, 64, 65, 66, 67] (by decide +kernel) (by decide +kernel)
set_option maxRecDepth 20000 in
theorem gX12_putAuthorYear_X12_cites : GoodIn wsX12_putAuthorYear (wsV RX12 119 RX12 yX12_cites wsX12_cites) := goodIn_app (goodIn_of _ (by decide +kernel)) ggX12_putAuthorYear_X12_cites
set_option maxRecDepth 20000 in
theorem ggX12_putAuthorYear_X12_haveOneNames : GoodIn wsX12_putAuthorYear wsX12_haveOneNames := goodIn_r _ [18, 19, 20, 21, 22, 23, 7, 24, 2, 25, 26, 27, 28, 49, 50, 51, 52, 53, 54, 55, 56, 57, 58, 59, 60, 61, 62, 63, 64, 65, 66, 67] (by decide +kernel) (by decide +kernel)
set_option maxRecDepth 20000 in
theorem gX12_putAuthorYear_X12_haveOneNames : GoodIn wsX12_putAuthorYear (wsV RX12 174 RX12 yX12_haveOneNames wsX12_haveOneNames) := goodIn_app (goodIn_of _ (by decide +kernel)) ggX12_putAuthorYear_X12_haveOneNames
set_option maxRecDepth 20000 in
theorem ggX12_putAuthorYear_X12_putNames : GoodIn wsX12_putAuthorYear wsX12_putNames := goodIn_r _ [32, 19, 20, 33, 34, 35, 7, 36, 4, 5, 6, 8, 9, 10, 25, 26, 27, 28, 2, 21, 22, 23, 24, 49, 50, 51, 52, 53, 54, 55, 56, 57, 58, 59, 60, 61, 62, 63, 64, 65, 66, 67] (by decide +kernel) (by decide +kernel)
set_option maxRecDepth 20000 in
theorem gX12_putAuthorYear_X12_putNames : GoodIn wsX12_putAuthorYear (wsV RX12 219 RX12 yX12_putNames wsX12_putNames) := goodIn_app (goodIn_of _ (by decide +kernel)) ggX12_putAuthorYear_X12_putNames
set_option maxRecDepth 20000 in
theorem ggX12_putAuthorYear_X12_year : GoodIn wsX12_putAuthorYear wsX12_year := goodIn_r _ [40, 2, 49, 50, 51, 52, 53, 54, 55, 56, 57, 58, 59, 60, 61, 62, 63, 64, 65, 66, 67] (by decide +kernel) (by decide +kernel)
set_option maxRecDepth 20000 in
theorem gX12_putAuthorYear_X12_year : GoodIn wsX12_putAuthorYear (wsV RX12 155 RX12 yX12_year wsX12_year) := goodIn_app (goodIn_of _ (by decide +kernel)) ggX12_putAuthorYear_X12_year
set_option maxRecDepth 20000 in
theorem ggX12_putAuthorYear_X12_putYear : GoodIn wsX12_putAuthorYear wsX12_putYear := goodIn_r _ [44, 37, 38, 39, 7, 40, 2, 4, 5, 6, 8, 9, 10, 49, 50, 51, 52, 53, 54, 55, 56, 57, 58, 59, 60, 61, 62, 63, 64, 65, 66, 67] (by decide +kernel) (by decide +kernel)
set_option maxRecDepth 20000 in
theorem gX12_putAuthorYear_X12_putYear : GoodIn wsX12_putAuthorYear (wsV RX12 222 RX12 yX12_putYear wsX12_putYear) := goodIn_app (goodIn_of _ (by decide +kernel)) ggX12_putAuthorYear_X12_putYear
set_option maxRecDepth 20000 in
theorem ggX12_putAuthorYear_X12_putSuffix : GoodIn wsX12_putAuthorYear wsX12_putSuffix := goodIn_r _ [48, 3, 4, 5, 6, 7, 8, 9, 10, 49, 50, 51, 52, 53, 54, 55, 56, 57, 58, 59, 60, 61, 62, 63, 64, 65, 66, 67] (by decide +kernel) (by decide +kernel)
set_option maxRecDepth 20000 in
theorem gX12_putAuthorYear_X12_putSuffix : GoodIn wsX12_putAuthorYear (wsV RX12 225 RX12 yX12_putSuffix wsX12_putSuffix) := goodIn_app (goodIn_of _ (by decide +kernel)) ggX12_putAuthorYear_X12_putSuffix
theorem dX12_putAuthorYear_0 : decode cX12_putAuthorYear 0 = .ok (.aload_n 0, 1) := by decide +kernel
theorem dX12_putAuthorYear_1 : decode cX12_putAuthorYear 1 = .ok (.bipush 40, 2) := by decide +kernel
theorem dX12_putAuthorYear_3 : decode cX12_putAuthorYear 3 = .ok (.invokevirtual 209, 3) := by decide +kernel
theorem dX12_putAuthorYear_6 : decode cX12_putAuthorYear 6 = .ok (.iconst 0, 1) := by decide +kernel
theorem dX12_putAuthorYear_7 : decode cX12_putAuthorYear 7 = .ok (.istore_n 2, 1) := by decide +kernel
theorem dX12_putAuthorYear_8 : decode cX12_putAuthorYear 8 = .ok (.iload_n 2, 1) := by decide +kernel
theorem dX12_putAuthorYear_9 : decode cX12_putAuthorYear 9 = .ok (.aload_n 0, 1) := by decide +kernel
theorem dX12_putAuthorYear_10 : decode cX12_putAuthorYear 10 = .ok (.iload_n 1, 1) := by decide +kernel
theorem dX12_putAuthorYear_11 : decode cX12_putAuthorYear 11 = .ok (.invokevirtual 119, 3) := by decide +kernel
theorem dX12_putAuthorYear_14 : decode cX12_putAuthorYear 14 = .ok (.if_icmp .ge 140, 3) := by decide +kernel
theorem dX12_putAuthorYear_17 : decode cX12_putAuthorYear 17 = .ok (.aload_n 0, 1) := by decide +kernel
theorem dX12_putAuthorYear_18 : decode cX12_putAuthorYear 18 = .ok (.getfield 47, 3) := by decide +kernel
theorem dX12_putAuthorYear_21 : decode cX12_putAuthorYear 21 = .ok (.iload_n 2, 1) := by decide +kernel
theorem dX12_putAuthorYear_22 : decode cX12_putAuthorYear 22 = .ok (.iaload, 1) := by decide +kernel
theorem dX12_putAuthorYear_23 : decode cX12_putAuthorYear 23 = .ok (.istore_n 3, 1) := by decide +kernel
theorem dX12_putAuthorYear_24 : decode cX12_putAuthorYear 24 = .ok (.iload_n 2, 1) := by decide +kernel
theorem dX12_putAuthorYear_25 : decode cX12_putAuthorYear 25 = .ok (.ifCond .le 33, 3) := by decide +kernel
theorem dX12_putAuthorYear_28 : decode cX12_putAuthorYear 28 = .ok (.aload_n 0, 1) := by decide +kernel
theorem dX12_putAuthorYear_29 : decode cX12_putAuthorYear 29 = .ok (.getfield 7, 3) := by decide +kernel
theorem dX12_putAuthorYear_32 : decode cX12_putAuthorYear 32 = .ok (.bipush 61, 2) := by decide +kernel
theorem dX12_putAuthorYear_34 : decode cX12_putAuthorYear 34 = .ok (.iaload, 1) := by decide +kernel
theorem dX12_putAuthorYear_35 : decode cX12_putAuthorYear 35 = .ok (.ifCond .le 23, 3) := by decide +kernel
theorem dX12_putAuthorYear_38 : decode cX12_putAuthorYear 38 = .ok (.aload_n 0, 1) := by decide +kernel
theorem dX12_putAuthorYear_39 : decode cX12_putAuthorYear 39 = .ok (.aload_n 0, 1) := by decide +kernel
theorem dX12_putAuthorYear_40 : decode cX12_putAuthorYear 40 = .ok (.getfield 47, 3) := by decide +kernel
theorem dX12_putAuthorYear_43 : decode cX12_putAuthorYear 43 = .ok (.iload_n 2, 1) := by decide +kernel
theorem dX12_putAuthorYear_44 : decode cX12_putAuthorYear 44 = .ok (.iconst 1, 1) := by decide +kernel
theorem dX12_putAuthorYear_45 : decode cX12_putAuthorYear 45 = .ok (.isub, 1) := by decide +kernel
theorem dX12_putAuthorYear_46 : decode cX12_putAuthorYear 46 = .ok (.iaload, 1) := by decide +kernel
theorem dX12_putAuthorYear_47 : decode cX12_putAuthorYear 47 = .ok (.iload_n 3, 1) := by decide +kernel
theorem dX12_putAuthorYear_48 : decode cX12_putAuthorYear 48 = .ok (.invokevirtual 174, 3) := by decide +kernel
theorem dX12_putAuthorYear_51 : decode cX12_putAuthorYear 51 = .ok (.ifCond .eq 7, 3) := by decide +kernel
theorem dX12_putAuthorYear_54 : decode cX12_putAuthorYear 54 = .ok (.iconst 1, 1) := by decide +kernel
theorem dX12_putAuthorYear_55 : decode cX12_putAuthorYear 55 = .ok (.goto 4, 3) := by decide +kernel
theorem dX12_putAuthorYear_58 : decode cX12_putAuthorYear 58 = .ok (.iconst 0, 1) := by decide +kernel
theorem dX12_putAuthorYear_59 : decode cX12_putAuthorYear 59 = .ok (.istore 4, 2) := by decide +kernel
theorem dX12_putAuthorYear_61 : decode cX12_putAuthorYear 61 = .ok (.iload_n 2, 1) := by decide +kernel
theorem dX12_putAuthorYear_62 : decode cX12_putAuthorYear 62 = .ok (.ifCond .le 19, 3) := by decide +kernel
theorem dX12_putAuthorYear_65 : decode cX12_putAuthorYear 65 = .ok (.aload_n 0, 1) := by decide +kernel
theorem dX12_putAuthorYear_66 : decode cX12_putAuthorYear 66 = .ok (.iload 4, 2) := by decide +kernel
theorem dX12_putAuthorYear_68 : decode cX12_putAuthorYear 68 = .ok (.ifCond .eq 8, 3) := by decide +kernel
theorem dX12_putAuthorYear_71 : decode cX12_putAuthorYear 71 = .ok (.bipush 44, 2) := by decide +kernel
theorem dX12_putAuthorYear_73 : decode cX12_putAuthorYear 73 = .ok (.goto 5, 3) := by decide +kernel
theorem dX12_putAuthorYear_76 : decode cX12_putAuthorYear 76 = .ok (.bipush 59, 2) := by decide +kernel
theorem dX12_putAuthorYear_78 : decode cX12_putAuthorYear 78 = .ok (.invokevirtual 209, 3) := by decide +kernel
theorem dX12_putAuthorYear_81 : decode cX12_putAuthorYear 81 = .ok (.iload 4, 2) := by decide +kernel
theorem dX12_putAuthorYear_83 : decode cX12_putAuthorYear 83 = .ok (.ifCond .ne 8, 3) := by decide +kernel
theorem dX12_putAuthorYear_86 : decode cX12_putAuthorYear 86 = .ok (.aload_n 0, 1) := by decide +kernel
theorem dX12_putAuthorYear_87 : decode cX12_putAuthorYear 87 = .ok (.iload_n 3, 1) := by decide +kernel
theorem dX12_putAuthorYear_88 : decode cX12_putAuthorYear 88 = .ok (.invokevirtual 219, 3) := by decide +kernel
theorem dX12_putAuthorYear_91 : decode cX12_putAuthorYear 91 = .ok (.iload 4, 2) := by decide +kernel
theorem dX12_putAuthorYear_93 : decode cX12_putAuthorYear 93 = .ok (.ifCond .eq 45, 3) := by decide +kernel
theorem dX12_putAuthorYear_96 : decode cX12_putAuthorYear 96 = .ok (.aload_n 0, 1) := by decide +kernel
theorem dX12_putAuthorYear_97 : decode cX12_putAuthorYear 97 = .ok (.getfield 7, 3) := by decide +kernel
theorem dX12_putAuthorYear_100 : decode cX12_putAuthorYear 100 = .ok (.bipush 61, 2) := by decide +kernel
theorem dX12_putAuthorYear_102 : decode cX12_putAuthorYear 102 = .ok (.iaload, 1) := by decide +kernel
theorem dX12_putAuthorYear_103 : decode cX12_putAuthorYear 103 = .ok (.iconst 2, 1) := by decide +kernel
theorem dX12_putAuthorYear_104 : decode cX12_putAuthorYear 104 = .ok (.if_icmp .lt 34, 3) := by decide +kernel
theorem dX12_putAuthorYear_107 : decode cX12_putAuthorYear 107 = .ok (.aload_n 0, 1) := by decide +kernel
theorem dX12_putAuthorYear_108 : decode cX12_putAuthorYear 108 = .ok (.getfield 35, 3) := by decide +kernel
theorem dX12_putAuthorYear_111 : decode cX12_putAuthorYear 111 = .ok (.iload_n 3, 1) := by decide +kernel
theorem dX12_putAuthorYear_112 : decode cX12_putAuthorYear 112 = .ok (.iaload, 1) := by decide +kernel
theorem dX12_putAuthorYear_113 : decode cX12_putAuthorYear 113 = .ok (.bipush (-9), 2) := by decide +kernel
theorem dX12_putAuthorYear_115 : decode cX12_putAuthorYear 115 = .ok (.if_icmp .eq 23, 3) := by decide +kernel
theorem dX12_putAuthorYear_118 : decode cX12_putAuthorYear 118 = .ok (.aload_n 0, 1) := by decide +kernel
theorem dX12_putAuthorYear_119 : decode cX12_putAuthorYear 119 = .ok (.iload_n 3, 1) := by decide +kernel
theorem dX12_putAuthorYear_120 : decode cX12_putAuthorYear 120 = .ok (.invokevirtual 155, 3) := by decide +kernel
theorem dX12_putAuthorYear_123 : decode cX12_putAuthorYear 123 = .ok (.aload_n 0, 1) := by decide +kernel
theorem dX12_putAuthorYear_124 : decode cX12_putAuthorYear 124 = .ok (.aload_n 0, 1) := by decide +kernel
theorem dX12_putAuthorYear_125 : decode cX12_putAuthorYear 125 = .ok (.getfield 47, 3) := by decide +kernel
theorem dX12_putAuthorYear_128 : decode cX12_putAuthorYear 128 = .ok (.iload_n 2, 1) := by decide +kernel
theorem dX12_putAuthorYear_129 : decode cX12_putAuthorYear 129 = .ok (.iconst 1, 1) := by decide +kernel
theorem dX12_putAuthorYear_130 : decode cX12_putAuthorYear 130 = .ok (.isub, 1) := by decide +kernel
theorem dX12_putAuthorYear_131 : decode cX12_putAuthorYear 131 = .ok (.iaload, 1) := by decide +kernel
theorem dX12_putAuthorYear_132 : decode cX12_putAuthorYear 132 = .ok (.invokevirtual 155, 3) := by decide +kernel
theorem dX12_putAuthorYear_135 : decode cX12_putAuthorYear 135 = .ok (.if_icmp .eq 8, 3) := by decide +kernel
theorem dX12_putAuthorYear_138 : decode cX12_putAuthorYear 138 = .ok (.aload_n 0, 1) := by decide +kernel
theorem dX12_putAuthorYear_139 : decode cX12_putAuthorYear 139 = .ok (.iload_n 3, 1) := by decide +kernel
theorem dX12_putAuthorYear_140 : decode cX12_putAuthorYear 140 = .ok (.invokevirtual 222, 3) := by decide +kernel
theorem dX12_putAuthorYear_143 : decode cX12_putAuthorYear 143 = .ok (.aload_n 0, 1) := by decide +kernel
theorem dX12_putAuthorYear_144 : decode cX12_putAuthorYear 144 = .ok (.iload_n 3, 1) := by decide +kernel
theorem dX12_putAuthorYear_145 : decode cX12_putAuthorYear 145 = .ok (.invokevirtual 225, 3) := by decide +kernel
theorem dX12_putAuthorYear_148 : decode cX12_putAuthorYear 148 = .ok (.iinc 2 1, 3) := by decide +kernel
theorem dX12_putAuthorYear_151 : decode cX12_putAuthorYear 151 = .ok (.goto (-143), 3) := by decide +kernel
theorem dX12_putAuthorYear_154 : decode cX12_putAuthorYear 154 = .ok (.aload_n 0, 1) := by decide +kernel
theorem dX12_putAuthorYear_155 : decode cX12_putAuthorYear 155 = .ok (.bipush 41, 2) := by decide +kernel
theorem dX12_putAuthorYear_157 : decode cX12_putAuthorYear 157 = .ok (.invokevirtual 209, 3) := by decide +kernel
theorem dX12_putAuthorYear_160 : decode cX12_putAuthorYear 160 = .ok (.return_, 1) := by decide +kernel
set_option maxRecDepth 20000 in
theorem ggX12_numberIn_X12_placeIn : GoodIn wsX12_numberIn wsX12_placeIn := goodIn_r _ [7] (by decide +kernel) (by decide +kernel)
set_option maxRecDepth 20000 in
theorem gX12_numberIn_X12_placeIn : GoodIn wsX12_numberIn (wsV RX12 170 RX12 yX12_placeIn wsX12_placeIn) := goodIn_app (goodIn_of _ (by decide +kernel)) ggX12_numberIn_X12_placeIn
theorem dX12_numberIn_0 : decode cX12_numberIn 0 = .ok (.aload_n 0, 1) := by decide +kernel
theorem dX12_numberIn_1 : decode cX12_numberIn 1 = .ok (.aload_n 0, 1) := by decide +kernel
theorem dX12_numberIn_2 : decode cX12_numberIn 2 = .ok (.getfield 25, 3) := by decide +kernel
theorem dX12_numberIn_5 : decode cX12_numberIn 5 = .ok (.aload_n 0, 1) := by decide +kernel
theorem dX12_numberIn_6 : decode cX12_numberIn 6 = .ok (.getfield 47, 3) := by decide +kernel
theorem dX12_numberIn_9 : decode cX12_numberIn 9 = .ok (.iload_n 1, 1) := by decide +kernel
theorem dX12_numberIn_10 : decode cX12_numberIn 10 = .ok (.iaload, 1) := by decide +kernel
theorem dX12_numberIn_11 : decode cX12_numberIn 11 = .ok (.invokevirtual 170, 3) := by decide +kernel
theorem dX12_numberIn_14 : decode cX12_numberIn 14 = .ok (.iconst 1, 1) := by decide +kernel
theorem dX12_numberIn_15 : decode cX12_numberIn 15 = .ok (.iadd, 1) := by decide +kernel
theorem dX12_numberIn_16 : decode cX12_numberIn 16 = .ok (.ireturn, 1) := by decide +kernel
set_option maxRecDepth 20000 in
theorem ggX12_putNumeric_X12_put : GoodIn wsX12_putNumeric wsX12_put := goodIn_r _ [6, 7, 8, 23, 24, 25, 26, 27, 28, 29, 30, 31, 32, 33, 34, 35, 36, 37, 38, 39, 40, 41] (by decide +kernel) (by decide +kernel)
set_option maxRecDepth 20000 in
theorem gX12_putNumeric_X12_put : GoodIn wsX12_putNumeric (wsV RX12 209 RX12 yX12_put wsX12_put) := goodIn_app (goodIn_of _ (by decide +kernel)) ggX12_putNumeric_X12_put
set_option maxRecDepth 20000 in
theorem ggX12_putNumeric_X12_cites : GoodIn wsX12_putNumeric wsX12_cites := goodIn_r _ [12, 1, 23, 24, 25, 26, 27, 28, 29, 30, 31, 32, 33, 34, 35, 36, 37, 38, 39, 40, 41] (by decide +kernel) (by decide +kernel)
set_option maxRecDepth 20000 in
theorem gX12_putNumeric_X12_cites : GoodIn wsX12_putNumeric (wsV RX12 119 RX12 yX12_cites wsX12_cites) := goodIn_app (goodIn_of _ (by decide +kernel)) ggX12_putNumeric_X12_cites
set_option maxRecDepth 20000 in
theorem ggX12_putNumeric_X12_numberIn : GoodIn wsX12_putNumeric wsX12_numberIn := goodIn_r _ [16, 17, 18, 19, 20, 21, 5, 22, 23, 24, 25, 26, 27, 28, 29, 30, 31, 32, 33, 34, 35, 36, 37, 38, 39, 40, 41] (by decide +kernel) (by decide +kernel)
set_option maxRecDepth 20000 in
theorem gX12_putNumeric_X12_numberIn : GoodIn wsX12_putNumeric (wsV RX12 228 RX12 yX12_numberIn wsX12_numberIn) := goodIn_app (goodIn_of _ (by decide +kernel)) ggX12_putNumeric_X12_numberIn
theorem dX12_putNumeric_0 : decode cX12_putNumeric 0 = .ok (.aload_n 0, 1) := by decide +kernel
theorem dX12_putNumeric_1 : decode cX12_putNumeric 1 = .ok (.bipush 91, 2) := by decide +kernel
theorem dX12_putNumeric_3 : decode cX12_putNumeric 3 = .ok (.invokevirtual 209, 3) := by decide +kernel
theorem dX12_putNumeric_6 : decode cX12_putNumeric 6 = .ok (.iconst 0, 1) := by decide +kernel
theorem dX12_putNumeric_7 : decode cX12_putNumeric 7 = .ok (.istore_n 2, 1) := by decide +kernel
theorem dX12_putNumeric_8 : decode cX12_putNumeric 8 = .ok (.iload_n 2, 1) := by decide +kernel
theorem dX12_putNumeric_9 : decode cX12_putNumeric 9 = .ok (.aload_n 0, 1) := by decide +kernel
theorem dX12_putNumeric_10 : decode cX12_putNumeric 10 = .ok (.iload_n 1, 1) := by decide +kernel
theorem dX12_putNumeric_11 : decode cX12_putNumeric 11 = .ok (.invokevirtual 119, 3) := by decide +kernel
theorem dX12_putNumeric_14 : decode cX12_putNumeric 14 = .ok (.if_icmp .ge 104, 3) := by decide +kernel
theorem dX12_putNumeric_17 : decode cX12_putNumeric 17 = .ok (.iload_n 2, 1) := by decide +kernel
theorem dX12_putNumeric_18 : decode cX12_putNumeric 18 = .ok (.istore_n 3, 1) := by decide +kernel
theorem dX12_putNumeric_19 : decode cX12_putNumeric 19 = .ok (.iload_n 3, 1) := by decide +kernel
theorem dX12_putNumeric_20 : decode cX12_putNumeric 20 = .ok (.iconst 1, 1) := by decide +kernel
theorem dX12_putNumeric_21 : decode cX12_putNumeric 21 = .ok (.iadd, 1) := by decide +kernel
theorem dX12_putNumeric_22 : decode cX12_putNumeric 22 = .ok (.aload_n 0, 1) := by decide +kernel
theorem dX12_putNumeric_23 : decode cX12_putNumeric 23 = .ok (.iload_n 1, 1) := by decide +kernel
theorem dX12_putNumeric_24 : decode cX12_putNumeric 24 = .ok (.invokevirtual 119, 3) := by decide +kernel
theorem dX12_putNumeric_27 : decode cX12_putNumeric 27 = .ok (.if_icmp .ge 26, 3) := by decide +kernel
theorem dX12_putNumeric_30 : decode cX12_putNumeric 30 = .ok (.aload_n 0, 1) := by decide +kernel
theorem dX12_putNumeric_31 : decode cX12_putNumeric 31 = .ok (.iload_n 3, 1) := by decide +kernel
theorem dX12_putNumeric_32 : decode cX12_putNumeric 32 = .ok (.iconst 1, 1) := by decide +kernel
theorem dX12_putNumeric_33 : decode cX12_putNumeric 33 = .ok (.iadd, 1) := by decide +kernel
theorem dX12_putNumeric_34 : decode cX12_putNumeric 34 = .ok (.invokevirtual 228, 3) := by decide +kernel
theorem dX12_putNumeric_37 : decode cX12_putNumeric 37 = .ok (.aload_n 0, 1) := by decide +kernel
theorem dX12_putNumeric_38 : decode cX12_putNumeric 38 = .ok (.iload_n 3, 1) := by decide +kernel
theorem dX12_putNumeric_39 : decode cX12_putNumeric 39 = .ok (.invokevirtual 228, 3) := by decide +kernel
theorem dX12_putNumeric_42 : decode cX12_putNumeric 42 = .ok (.iconst 1, 1) := by decide +kernel
theorem dX12_putNumeric_43 : decode cX12_putNumeric 43 = .ok (.iadd, 1) := by decide +kernel
theorem dX12_putNumeric_44 : decode cX12_putNumeric 44 = .ok (.if_icmp .ne 9, 3) := by decide +kernel
theorem dX12_putNumeric_47 : decode cX12_putNumeric 47 = .ok (.iinc 3 1, 3) := by decide +kernel
theorem dX12_putNumeric_50 : decode cX12_putNumeric 50 = .ok (.goto (-31), 3) := by decide +kernel
theorem dX12_putNumeric_53 : decode cX12_putNumeric 53 = .ok (.iload_n 2, 1) := by decide +kernel
theorem dX12_putNumeric_54 : decode cX12_putNumeric 54 = .ok (.ifCond .le 9, 3) := by decide +kernel
theorem dX12_putNumeric_57 : decode cX12_putNumeric 57 = .ok (.aload_n 0, 1) := by decide +kernel
theorem dX12_putNumeric_58 : decode cX12_putNumeric 58 = .ok (.bipush 44, 2) := by decide +kernel
theorem dX12_putNumeric_60 : decode cX12_putNumeric 60 = .ok (.invokevirtual 209, 3) := by decide +kernel
theorem dX12_putNumeric_63 : decode cX12_putNumeric 63 = .ok (.aload_n 0, 1) := by decide +kernel
theorem dX12_putNumeric_64 : decode cX12_putNumeric 64 = .ok (.bipush 48, 2) := by decide +kernel
theorem dX12_putNumeric_66 : decode cX12_putNumeric 66 = .ok (.aload_n 0, 1) := by decide +kernel
theorem dX12_putNumeric_67 : decode cX12_putNumeric 67 = .ok (.iload_n 2, 1) := by decide +kernel
theorem dX12_putNumeric_68 : decode cX12_putNumeric 68 = .ok (.invokevirtual 228, 3) := by decide +kernel
theorem dX12_putNumeric_71 : decode cX12_putNumeric 71 = .ok (.iadd, 1) := by decide +kernel
theorem dX12_putNumeric_72 : decode cX12_putNumeric 72 = .ok (.invokevirtual 209, 3) := by decide +kernel
theorem dX12_putNumeric_75 : decode cX12_putNumeric 75 = .ok (.aload_n 0, 1) := by decide +kernel
theorem dX12_putNumeric_76 : decode cX12_putNumeric 76 = .ok (.getfield 7, 3) := by decide +kernel
theorem dX12_putNumeric_79 : decode cX12_putNumeric 79 = .ok (.bipush 61, 2) := by decide +kernel
theorem dX12_putNumeric_81 : decode cX12_putNumeric 81 = .ok (.iaload, 1) := by decide +kernel
theorem dX12_putNumeric_82 : decode cX12_putNumeric 82 = .ok (.ifCond .le 30, 3) := by decide +kernel
theorem dX12_putNumeric_85 : decode cX12_putNumeric 85 = .ok (.iload_n 3, 1) := by decide +kernel
theorem dX12_putNumeric_86 : decode cX12_putNumeric 86 = .ok (.iload_n 2, 1) := by decide +kernel
theorem dX12_putNumeric_87 : decode cX12_putNumeric 87 = .ok (.isub, 1) := by decide +kernel
theorem dX12_putNumeric_88 : decode cX12_putNumeric 88 = .ok (.iconst 1, 1) := by decide +kernel
theorem dX12_putNumeric_89 : decode cX12_putNumeric 89 = .ok (.if_icmp .le 23, 3) := by decide +kernel
theorem dX12_putNumeric_92 : decode cX12_putNumeric 92 = .ok (.aload_n 0, 1) := by decide +kernel
theorem dX12_putNumeric_93 : decode cX12_putNumeric 93 = .ok (.bipush 45, 2) := by decide +kernel
theorem dX12_putNumeric_95 : decode cX12_putNumeric 95 = .ok (.invokevirtual 209, 3) := by decide +kernel
theorem dX12_putNumeric_98 : decode cX12_putNumeric 98 = .ok (.aload_n 0, 1) := by decide +kernel
theorem dX12_putNumeric_99 : decode cX12_putNumeric 99 = .ok (.bipush 48, 2) := by decide +kernel
theorem dX12_putNumeric_101 : decode cX12_putNumeric 101 = .ok (.aload_n 0, 1) := by decide +kernel
theorem dX12_putNumeric_102 : decode cX12_putNumeric 102 = .ok (.iload_n 3, 1) := by decide +kernel
theorem dX12_putNumeric_103 : decode cX12_putNumeric 103 = .ok (.invokevirtual 228, 3) := by decide +kernel
theorem dX12_putNumeric_106 : decode cX12_putNumeric 106 = .ok (.iadd, 1) := by decide +kernel
theorem dX12_putNumeric_107 : decode cX12_putNumeric 107 = .ok (.invokevirtual 209, 3) := by decide +kernel
theorem dX12_putNumeric_110 : decode cX12_putNumeric 110 = .ok (.iload_n 3, 1) := by decide +kernel
theorem dX12_putNumeric_111 : decode cX12_putNumeric 111 = .ok (.istore_n 2, 1) := by decide +kernel
theorem dX12_putNumeric_112 : decode cX12_putNumeric 112 = .ok (.iinc 2 1, 3) := by decide +kernel
theorem dX12_putNumeric_115 : decode cX12_putNumeric 115 = .ok (.goto (-107), 3) := by decide +kernel
theorem dX12_putNumeric_118 : decode cX12_putNumeric 118 = .ok (.aload_n 0, 1) := by decide +kernel
theorem dX12_putNumeric_119 : decode cX12_putNumeric 119 = .ok (.bipush 93, 2) := by decide +kernel
theorem dX12_putNumeric_121 : decode cX12_putNumeric 121 = .ok (.invokevirtual 209, 3) := by decide +kernel
theorem dX12_putNumeric_124 : decode cX12_putNumeric 124 = .ok (.return_, 1) := by decide +kernel
set_option maxRecDepth 20000 in
theorem ggX12_earliest_X12_doesCite : GoodIn wsX12_earliest wsX12_doesCite := goodIn_r _ [5, 6, 7, 8, 4, 9, 10, 11, 12, 13, 14, 15, 16, 17, 18, 19, 20, 21, 22, 23, 24, 25, 26, 27, 28, 29, 30, 31, 32, 33] (by decide +kernel) (by decide +kernel)
set_option maxRecDepth 20000 in
theorem gX12_earliest_X12_doesCite : GoodIn wsX12_earliest (wsV RX12 139 RX12 yX12_doesCite wsX12_doesCite) := goodIn_app (goodIn_of _ (by decide +kernel)) ggX12_earliest_X12_doesCite
theorem dX12_earliest_0 : decode cX12_earliest 0 = .ok (.iconst 0, 1) := by decide +kernel
theorem dX12_earliest_1 : decode cX12_earliest 1 = .ok (.istore_n 3, 1) := by decide +kernel
theorem dX12_earliest_2 : decode cX12_earliest 2 = .ok (.iload_n 3, 1) := by decide +kernel
theorem dX12_earliest_3 : decode cX12_earliest 3 = .ok (.iload_n 2, 1) := by decide +kernel
theorem dX12_earliest_4 : decode cX12_earliest 4 = .ok (.if_icmp .ge 20, 3) := by decide +kernel
theorem dX12_earliest_7 : decode cX12_earliest 7 = .ok (.aload_n 0, 1) := by decide +kernel
theorem dX12_earliest_8 : decode cX12_earliest 8 = .ok (.iload_n 3, 1) := by decide +kernel
theorem dX12_earliest_9 : decode cX12_earliest 9 = .ok (.iload_n 1, 1) := by decide +kernel
theorem dX12_earliest_10 : decode cX12_earliest 10 = .ok (.invokevirtual 139, 3) := by decide +kernel
theorem dX12_earliest_13 : decode cX12_earliest 13 = .ok (.ifCond .eq 5, 3) := by decide +kernel
theorem dX12_earliest_16 : decode cX12_earliest 16 = .ok (.iload_n 3, 1) := by decide +kernel
theorem dX12_earliest_17 : decode cX12_earliest 17 = .ok (.ireturn, 1) := by decide +kernel
theorem dX12_earliest_18 : decode cX12_earliest 18 = .ok (.iinc 3 1, 3) := by decide +kernel
theorem dX12_earliest_21 : decode cX12_earliest 21 = .ok (.goto (-19), 3) := by decide +kernel
theorem dX12_earliest_24 : decode cX12_earliest 24 = .ok (.bipush (-9), 2) := by decide +kernel
theorem dX12_earliest_26 : decode cX12_earliest 26 = .ok (.ireturn, 1) := by decide +kernel
set_option maxRecDepth 20000 in
theorem ggX12_putNote_X12_cites : GoodIn wsX12_putNote wsX12_cites := goodIn_r _ [6, 7, 56, 57, 58, 59, 60, 61, 62, 63, 64, 65, 66, 67, 68, 69, 70, 71, 72, 73, 74] (by decide +kernel) (by decide +kernel)
set_option maxRecDepth 20000 in
theorem gX12_putNote_X12_cites : GoodIn wsX12_putNote (wsV RX12 119 RX12 yX12_cites wsX12_cites) := goodIn_app (goodIn_of _ (by decide +kernel)) ggX12_putNote_X12_cites
set_option maxRecDepth 20000 in
theorem ggX12_putNote_X12_earliest : GoodIn wsX12_putNote wsX12_earliest := goodIn_r _ [11, 12, 13, 14, 5, 15, 2, 3, 4, 6, 7, 16, 17, 18, 19, 56, 57, 58, 59, 60, 61, 62, 63, 64, 65, 66, 67, 68, 69, 70, 71, 72, 73, 74] (by decide +kernel) (by decide +kernel)
set_option maxRecDepth 20000 in
theorem gX12_putNote_X12_earliest : GoodIn wsX12_putNote (wsV RX12 231 RX12 yX12_earliest wsX12_earliest) := goodIn_app (goodIn_of _ (by decide +kernel)) ggX12_putNote_X12_earliest
set_option maxRecDepth 20000 in
theorem ggX12_putNote_X12_put : GoodIn wsX12_putNote wsX12_put := goodIn_r _ [23, 24, 25, 56, 57, 58, 59, 60, 61, 62, 63, 64, 65, 66, 67, 68, 69, 70, 71, 72, 73, 74] (by decide +kernel) (by decide +kernel)
set_option maxRecDepth 20000 in
theorem gX12_putNote_X12_put : GoodIn wsX12_putNote (wsV RX12 209 RX12 yX12_put wsX12_put) := goodIn_app (goodIn_of _ (by decide +kernel)) ggX12_putNote_X12_put
set_option maxRecDepth 20000 in
theorem ggX12_putNote_X12_cited : GoodIn wsX12_putNote wsX12_cited := goodIn_r _ [19, 7, 56, 57, 58, 59, 60, 61, 62, 63, 64, 65, 66, 67, 68, 69, 70, 71, 72, 73, 74] (by decide +kernel) (by decide +kernel)
set_option maxRecDepth 20000 in
theorem gX12_putNote_X12_cited : GoodIn wsX12_putNote (wsV RX12 122 RX12 yX12_cited wsX12_cited) := goodIn_app (goodIn_of _ (by decide +kernel)) ggX12_putNote_X12_cited
set_option maxRecDepth 20000 in
theorem ggX12_putNote_X12_putNames : GoodIn wsX12_putNote wsX12_putNames := goodIn_r _ [29, 30, 31, 32, 33, 34, 5, 35, 20, 21, 22, 23, 24, 25, 36, 37, 38, 39, 7, 40, 41, 42, 43, 56, 57, 58, 59, 60, 61, 62, 63, 64, 65, 66, 67, 68, 69, 70, 71, 72, 73, 74] (by decide +kernel) (by decide +kernel)
set_option maxRecDepth 20000 in
theorem gX12_putNote_X12_putNames : GoodIn wsX12_putNote (wsV RX12 219 RX12 yX12_putNames wsX12_putNames) := goodIn_app (goodIn_of _ (by decide +kernel)) ggX12_putNote_X12_putNames
set_option maxRecDepth 20000 in
theorem ggX12_putNote_X12_authors : GoodIn wsX12_putNote wsX12_authors := goodIn_r _ [43, 7, 56, 57, 58, 59, 60, 61, 62, 63, 64, 65, 66, 67, 68, 69, 70, 71, 72, 73, 74] (by decide +kernel) (by decide +kernel)
set_option maxRecDepth 20000 in
theorem gX12_putNote_X12_authors : GoodIn wsX12_putNote (wsV RX12 146 RX12 yX12_authors wsX12_authors) := goodIn_app (goodIn_of _ (by decide +kernel)) ggX12_putNote_X12_authors
set_option maxRecDepth 20000 in
theorem ggX12_putNote_X12_putAuthors : GoodIn wsX12_putNote wsX12_putAuthors := goodIn_r _ [35, 20, 21, 22, 5, 23, 24, 25, 36, 37, 38, 39, 7, 56, 57, 58, 59, 60, 61, 62, 63, 64, 65, 66, 67, 68, 69, 70, 71, 72, 73, 74] (by decide +kernel) (by decide +kernel)
set_option maxRecDepth 20000 in
theorem gX12_putNote_X12_putAuthors : GoodIn wsX12_putNote (wsV RX12 212 RX12 yX12_putAuthors wsX12_putAuthors) := goodIn_app (goodIn_of _ (by decide +kernel)) ggX12_putNote_X12_putAuthors
set_option maxRecDepth 20000 in
theorem ggX12_putNote_X12_title : GoodIn wsX12_putNote wsX12_title := goodIn_r _ [47, 7, 56, 57, 58, 59, 60, 61, 62, 63, 64, 65, 66, 67, 68, 69, 70, 71, 72, 73, 74] (by decide +kernel) (by decide +kernel)
set_option maxRecDepth 20000 in
theorem gX12_putNote_X12_title : GoodIn wsX12_putNote (wsV RX12 158 RX12 yX12_title wsX12_title) := goodIn_app (goodIn_of _ (by decide +kernel)) ggX12_putNote_X12_title
set_option maxRecDepth 20000 in
theorem ggX12_putNote_X12_putYear : GoodIn wsX12_putNote wsX12_putYear := goodIn_r _ [51, 52, 53, 54, 5, 55, 7, 20, 21, 22, 23, 24, 25, 56, 57, 58, 59, 60, 61, 62, 63, 64, 65, 66, 67, 68, 69, 70, 71, 72, 73, 74] (by decide +kernel) (by decide +kernel)
set_option maxRecDepth 20000 in
theorem gX12_putNote_X12_putYear : GoodIn wsX12_putNote (wsV RX12 222 RX12 yX12_putYear wsX12_putYear) := goodIn_app (goodIn_of _ (by decide +kernel)) ggX12_putNote_X12_putYear
theorem dX12_putNote_0 : decode cX12_putNote 0 = .ok (.iconst 0, 1) := by decide +kernel
theorem dX12_putNote_1 : decode cX12_putNote 1 = .ok (.istore_n 2, 1) := by decide +kernel
theorem dX12_putNote_2 : decode cX12_putNote 2 = .ok (.iload_n 2, 1) := by decide +kernel
theorem dX12_putNote_3 : decode cX12_putNote 3 = .ok (.aload_n 0, 1) := by decide +kernel
theorem dX12_putNote_4 : decode cX12_putNote 4 = .ok (.iload_n 1, 1) := by decide +kernel
theorem dX12_putNote_5 : decode cX12_putNote 5 = .ok (.invokevirtual 119, 3) := by decide +kernel
theorem dX12_putNote_8 : decode cX12_putNote 8 = .ok (.if_icmp .ge 135, 3) := by decide +kernel
theorem dX12_putNote_11 : decode cX12_putNote 11 = .ok (.aload_n 0, 1) := by decide +kernel
theorem dX12_putNote_12 : decode cX12_putNote 12 = .ok (.getfield 47, 3) := by decide +kernel
theorem dX12_putNote_15 : decode cX12_putNote 15 = .ok (.iload_n 2, 1) := by decide +kernel
theorem dX12_putNote_16 : decode cX12_putNote 16 = .ok (.iaload, 1) := by decide +kernel
theorem dX12_putNote_17 : decode cX12_putNote 17 = .ok (.istore_n 3, 1) := by decide +kernel
theorem dX12_putNote_18 : decode cX12_putNote 18 = .ok (.aload_n 0, 1) := by decide +kernel
theorem dX12_putNote_19 : decode cX12_putNote 19 = .ok (.iload_n 3, 1) := by decide +kernel
theorem dX12_putNote_20 : decode cX12_putNote 20 = .ok (.iload_n 1, 1) := by decide +kernel
theorem dX12_putNote_21 : decode cX12_putNote 21 = .ok (.invokevirtual 231, 3) := by decide +kernel
theorem dX12_putNote_24 : decode cX12_putNote 24 = .ok (.iconst 1, 1) := by decide +kernel
theorem dX12_putNote_25 : decode cX12_putNote 25 = .ok (.iadd, 1) := by decide +kernel
theorem dX12_putNote_26 : decode cX12_putNote 26 = .ok (.istore 4, 2) := by decide +kernel
theorem dX12_putNote_28 : decode cX12_putNote 28 = .ok (.iload_n 2, 1) := by decide +kernel
theorem dX12_putNote_29 : decode cX12_putNote 29 = .ok (.ifCond .le 9, 3) := by decide +kernel
theorem dX12_putNote_32 : decode cX12_putNote 32 = .ok (.aload_n 0, 1) := by decide +kernel
theorem dX12_putNote_33 : decode cX12_putNote 33 = .ok (.bipush 59, 2) := by decide +kernel
theorem dX12_putNote_35 : decode cX12_putNote 35 = .ok (.invokevirtual 209, 3) := by decide +kernel
theorem dX12_putNote_38 : decode cX12_putNote 38 = .ok (.iload_n 2, 1) := by decide +kernel
theorem dX12_putNote_39 : decode cX12_putNote 39 = .ok (.ifCond .ne 39, 3) := by decide +kernel
theorem dX12_putNote_42 : decode cX12_putNote 42 = .ok (.iload_n 1, 1) := by decide +kernel
theorem dX12_putNote_43 : decode cX12_putNote 43 = .ok (.ifCond .le 35, 3) := by decide +kernel
theorem dX12_putNote_46 : decode cX12_putNote 46 = .ok (.aload_n 0, 1) := by decide +kernel
theorem dX12_putNote_47 : decode cX12_putNote 47 = .ok (.iload_n 1, 1) := by decide +kernel
theorem dX12_putNote_48 : decode cX12_putNote 48 = .ok (.iconst 1, 1) := by decide +kernel
theorem dX12_putNote_49 : decode cX12_putNote 49 = .ok (.isub, 1) := by decide +kernel
theorem dX12_putNote_50 : decode cX12_putNote 50 = .ok (.invokevirtual 119, 3) := by decide +kernel
theorem dX12_putNote_53 : decode cX12_putNote 53 = .ok (.iconst 1, 1) := by decide +kernel
theorem dX12_putNote_54 : decode cX12_putNote 54 = .ok (.if_icmp .ne 24, 3) := by decide +kernel
theorem dX12_putNote_57 : decode cX12_putNote 57 = .ok (.aload_n 0, 1) := by decide +kernel
theorem dX12_putNote_58 : decode cX12_putNote 58 = .ok (.iload_n 1, 1) := by decide +kernel
theorem dX12_putNote_59 : decode cX12_putNote 59 = .ok (.iconst 1, 1) := by decide +kernel
theorem dX12_putNote_60 : decode cX12_putNote 60 = .ok (.isub, 1) := by decide +kernel
theorem dX12_putNote_61 : decode cX12_putNote 61 = .ok (.iconst 0, 1) := by decide +kernel
theorem dX12_putNote_62 : decode cX12_putNote 62 = .ok (.invokevirtual 122, 3) := by decide +kernel
theorem dX12_putNote_65 : decode cX12_putNote 65 = .ok (.iload_n 3, 1) := by decide +kernel
theorem dX12_putNote_66 : decode cX12_putNote 66 = .ok (.if_icmp .ne 12, 3) := by decide +kernel
theorem dX12_putNote_69 : decode cX12_putNote 69 = .ok (.aload_n 0, 1) := by decide +kernel
theorem dX12_putNote_70 : decode cX12_putNote 70 = .ok (.bipush 105, 2) := by decide +kernel
theorem dX12_putNote_72 : decode cX12_putNote 72 = .ok (.invokevirtual 209, 3) := by decide +kernel
theorem dX12_putNote_75 : decode cX12_putNote 75 = .ok (.goto 62, 3) := by decide +kernel
theorem dX12_putNote_78 : decode cX12_putNote 78 = .ok (.iload 4, 2) := by decide +kernel
theorem dX12_putNote_80 : decode cX12_putNote 80 = .ok (.ifCond .le 29, 3) := by decide +kernel
theorem dX12_putNote_83 : decode cX12_putNote 83 = .ok (.aload_n 0, 1) := by decide +kernel
theorem dX12_putNote_84 : decode cX12_putNote 84 = .ok (.iload_n 3, 1) := by decide +kernel
theorem dX12_putNote_85 : decode cX12_putNote 85 = .ok (.invokevirtual 219, 3) := by decide +kernel
theorem dX12_putNote_88 : decode cX12_putNote 88 = .ok (.aload_n 0, 1) := by decide +kernel
theorem dX12_putNote_89 : decode cX12_putNote 89 = .ok (.bipush 110, 2) := by decide +kernel
theorem dX12_putNote_91 : decode cX12_putNote 91 = .ok (.invokevirtual 209, 3) := by decide +kernel
theorem dX12_putNote_94 : decode cX12_putNote 94 = .ok (.aload_n 0, 1) := by decide +kernel
theorem dX12_putNote_95 : decode cX12_putNote 95 = .ok (.bipush 48, 2) := by decide +kernel
theorem dX12_putNote_97 : decode cX12_putNote 97 = .ok (.iload 4, 2) := by decide +kernel
theorem dX12_putNote_99 : decode cX12_putNote 99 = .ok (.bipush 10, 2) := by decide +kernel
theorem dX12_putNote_101 : decode cX12_putNote 101 = .ok (.irem, 1) := by decide +kernel
theorem dX12_putNote_102 : decode cX12_putNote 102 = .ok (.iadd, 1) := by decide +kernel
theorem dX12_putNote_103 : decode cX12_putNote 103 = .ok (.invokevirtual 209, 3) := by decide +kernel
theorem dX12_putNote_106 : decode cX12_putNote 106 = .ok (.goto 31, 3) := by decide +kernel
theorem dX12_putNote_109 : decode cX12_putNote 109 = .ok (.aload_n 0, 1) := by decide +kernel
theorem dX12_putNote_110 : decode cX12_putNote 110 = .ok (.iload_n 3, 1) := by decide +kernel
theorem dX12_putNote_111 : decode cX12_putNote 111 = .ok (.aload_n 0, 1) := by decide +kernel
theorem dX12_putNote_112 : decode cX12_putNote 112 = .ok (.iload_n 3, 1) := by decide +kernel
theorem dX12_putNote_113 : decode cX12_putNote 113 = .ok (.invokevirtual 146, 3) := by decide +kernel
theorem dX12_putNote_116 : decode cX12_putNote 116 = .ok (.iconst 1, 1) := by decide +kernel
theorem dX12_putNote_117 : decode cX12_putNote 117 = .ok (.invokevirtual 212, 3) := by decide +kernel
theorem dX12_putNote_120 : decode cX12_putNote 120 = .ok (.aload_n 0, 1) := by decide +kernel
theorem dX12_putNote_121 : decode cX12_putNote 121 = .ok (.bipush 97, 2) := by decide +kernel
theorem dX12_putNote_123 : decode cX12_putNote 123 = .ok (.aload_n 0, 1) := by decide +kernel
theorem dX12_putNote_124 : decode cX12_putNote 124 = .ok (.iload_n 3, 1) := by decide +kernel
theorem dX12_putNote_125 : decode cX12_putNote 125 = .ok (.invokevirtual 158, 3) := by decide +kernel
theorem dX12_putNote_128 : decode cX12_putNote 128 = .ok (.iadd, 1) := by decide +kernel
theorem dX12_putNote_129 : decode cX12_putNote 129 = .ok (.invokevirtual 209, 3) := by decide +kernel
theorem dX12_putNote_132 : decode cX12_putNote 132 = .ok (.aload_n 0, 1) := by decide +kernel
theorem dX12_putNote_133 : decode cX12_putNote 133 = .ok (.iload_n 3, 1) := by decide +kernel
theorem dX12_putNote_134 : decode cX12_putNote 134 = .ok (.invokevirtual 222, 3) := by decide +kernel
theorem dX12_putNote_137 : decode cX12_putNote 137 = .ok (.iinc 2 1, 3) := by decide +kernel
theorem dX12_putNote_140 : decode cX12_putNote 140 = .ok (.goto (-138), 3) := by decide +kernel
theorem dX12_putNote_143 : decode cX12_putNote 143 = .ok (.aload_n 0, 1) := by decide +kernel
theorem dX12_putNote_144 : decode cX12_putNote 144 = .ok (.bipush 46, 2) := by decide +kernel
theorem dX12_putNote_146 : decode cX12_putNote 146 = .ok (.invokevirtual 209, 3) := by decide +kernel
theorem dX12_putNote_149 : decode cX12_putNote 149 = .ok (.return_, 1) := by decide +kernel
set_option maxRecDepth 20000 in
theorem ggX12_render_X12_layLabels : GoodIn wsX12_render wsX12_layLabels := goodIn_r _ [7, 2, 8, 9, 10, 11, 12, 13, 6, 14, 15, 16, 17, 18, 19, 20, 21, 22, 23, 24, 25, 26, 27, 28, 29, 30, 31, 32, 33, 34, 35, 36, 37, 38, 39, 40, 41, 42, 43, 44, 45, 46, 47, 48, 49, 50, 51, 52, 53, 54, 55, 56, 57, 58, 59, 60, 61, 62, 63, 64, 65, 66, 67, 68, 69, 70, 71, 72, 73, 74, 75, 76, 77, 78, 79, 80, 81, 82, 83, 84, 85, 86, 87, 88, 89, 90, 149, 150, 151, 152, 153, 154, 155, 156, 157, 158, 159, 160, 161, 162, 163, 164, 165, 166, 167] (by decide +kernel) (by decide +kernel)
set_option maxRecDepth 20000 in
theorem gX12_render_X12_layLabels : GoodIn wsX12_render (wsV RX12 203 RX12 yX12_layLabels wsX12_layLabels) := goodIn_app (goodIn_of _ (by decide +kernel)) ggX12_render_X12_layLabels
set_option maxRecDepth 20000 in
theorem ggX12_render_X12_layRow : GoodIn wsX12_render wsX12_layRow := goodIn_r _ [94, 2, 95, 45, 46, 47, 6, 48, 96, 97, 98, 99, 15, 16, 100, 101, 102, 103, 49, 50, 51, 52, 149, 150, 151, 152, 153, 154, 155, 156, 157, 158, 159, 160, 161, 162, 163, 164, 165, 166, 167] (by decide +kernel) (by decide +kernel)
set_option maxRecDepth 20000 in
theorem gX12_render_X12_layRow : GoodIn wsX12_render (wsV RX12 234 RX12 yX12_layRow wsX12_layRow) := goodIn_app (goodIn_of _ (by decide +kernel)) ggX12_render_X12_layRow
set_option maxRecDepth 20000 in
theorem ggX12_render_X12_putAuthorYear : GoodIn wsX12_render wsX12_putAuthorYear := goodIn_r _ [107, 95, 2, 10, 108, 109, 110, 6, 111, 112, 1, 45, 46, 47, 48, 62, 63, 64, 65, 8, 9, 29, 30, 31, 32, 33, 34, 35, 36, 113, 114, 115, 116, 117, 118, 119, 120, 37, 38, 39, 40, 121, 122, 123, 124, 125, 126, 127, 128, 149, 150, 151, 152, 153, 154, 155, 156, 157, 158, 159, 160, 161, 162, 163, 164, 165, 166, 167] (by decide +kernel) (by decide +kernel)
set_option maxRecDepth 20000 in
theorem gX12_render_X12_putAuthorYear : GoodIn wsX12_render (wsV RX12 237 RX12 yX12_putAuthorYear wsX12_putAuthorYear) := goodIn_app (goodIn_of _ (by decide +kernel)) ggX12_render_X12_putAuthorYear
set_option maxRecDepth 20000 in
theorem ggX12_render_X12_putNumeric : GoodIn wsX12_render wsX12_putNumeric := goodIn_r _ [132, 2, 108, 109, 110, 6, 111, 112, 1, 45, 46, 47, 48, 133, 134, 135, 136, 15, 95, 100, 101, 102, 103, 149, 150, 151, 152, 153, 154, 155, 156, 157, 158, 159, 160, 161, 162, 163, 164, 165, 166, 167] (by decide +kernel) (by decide +kernel)
set_option maxRecDepth 20000 in
theorem gX12_render_X12_putNumeric : GoodIn wsX12_render (wsV RX12 240 RX12 yX12_putNumeric wsX12_putNumeric) := goodIn_app (goodIn_of _ (by decide +kernel)) ggX12_render_X12_putNumeric
set_option maxRecDepth 20000 in
theorem ggX12_render_X12_putNote : GoodIn wsX12_render wsX12_putNote := goodIn_r _ [140, 95, 45, 46, 47, 6, 48, 2, 141, 142, 143, 144, 145, 146, 147, 148, 49, 50, 51, 52, 108, 109, 110, 111, 112, 1, 113, 114, 115, 116, 8, 9, 117, 118, 119, 120, 33, 34, 35, 36, 29, 30, 31, 32, 41, 42, 43, 44, 121, 122, 123, 124, 37, 38, 39, 40, 149, 150, 151, 152, 153, 154, 155, 156, 157, 158, 159, 160, 161, 162, 163, 164, 165, 166, 167] (by decide +kernel) (by decide +kernel)
set_option maxRecDepth 20000 in
theorem gX12_render_X12_putNote : GoodIn wsX12_render (wsV RX12 243 RX12 yX12_putNote wsX12_putNote) := goodIn_app (goodIn_of _ (by decide +kernel)) ggX12_render_X12_putNote
theorem dX12_render_0 : decode cX12_render 0 = .ok (.aload_n 0, 1) := by decide +kernel
theorem dX12_render_1 : decode cX12_render 1 = .ok (.invokevirtual 203, 3) := by decide +kernel
theorem dX12_render_4 : decode cX12_render 4 = .ok (.aload_n 0, 1) := by decide +kernel
theorem dX12_render_5 : decode cX12_render 5 = .ok (.iload_n 1, 1) := by decide +kernel
theorem dX12_render_6 : decode cX12_render 6 = .ok (.invokevirtual 234, 3) := by decide +kernel
theorem dX12_render_9 : decode cX12_render 9 = .ok (.aload_n 0, 1) := by decide +kernel
theorem dX12_render_10 : decode cX12_render 10 = .ok (.iconst 0, 1) := by decide +kernel
theorem dX12_render_11 : decode cX12_render 11 = .ok (.putfield 206, 3) := by decide +kernel
theorem dX12_render_14 : decode cX12_render 14 = .ok (.aload_n 0, 1) := by decide +kernel
theorem dX12_render_15 : decode cX12_render 15 = .ok (.getfield 7, 3) := by decide +kernel
theorem dX12_render_18 : decode cX12_render 18 = .ok (.bipush 57, 2) := by decide +kernel
theorem dX12_render_20 : decode cX12_render 20 = .ok (.iaload, 1) := by decide +kernel
theorem dX12_render_21 : decode cX12_render 21 = .ok (.ifCond .ne 11, 3) := by decide +kernel
theorem dX12_render_24 : decode cX12_render 24 = .ok (.aload_n 0, 1) := by decide +kernel
theorem dX12_render_25 : decode cX12_render 25 = .ok (.iload_n 1, 1) := by decide +kernel
theorem dX12_render_26 : decode cX12_render 26 = .ok (.invokevirtual 237, 3) := by decide +kernel
theorem dX12_render_29 : decode cX12_render 29 = .ok (.goto 27, 3) := by decide +kernel
theorem dX12_render_32 : decode cX12_render 32 = .ok (.aload_n 0, 1) := by decide +kernel
theorem dX12_render_33 : decode cX12_render 33 = .ok (.getfield 7, 3) := by decide +kernel
theorem dX12_render_36 : decode cX12_render 36 = .ok (.bipush 57, 2) := by decide +kernel
theorem dX12_render_38 : decode cX12_render 38 = .ok (.iaload, 1) := by decide +kernel
theorem dX12_render_39 : decode cX12_render 39 = .ok (.iconst 1, 1) := by decide +kernel
theorem dX12_render_40 : decode cX12_render 40 = .ok (.if_icmp .ne 11, 3) := by decide +kernel
theorem dX12_render_43 : decode cX12_render 43 = .ok (.aload_n 0, 1) := by decide +kernel
theorem dX12_render_44 : decode cX12_render 44 = .ok (.iload_n 1, 1) := by decide +kernel
theorem dX12_render_45 : decode cX12_render 45 = .ok (.invokevirtual 240, 3) := by decide +kernel
theorem dX12_render_48 : decode cX12_render 48 = .ok (.goto 8, 3) := by decide +kernel
theorem dX12_render_51 : decode cX12_render 51 = .ok (.aload_n 0, 1) := by decide +kernel
theorem dX12_render_52 : decode cX12_render 52 = .ok (.iload_n 1, 1) := by decide +kernel
theorem dX12_render_53 : decode cX12_render 53 = .ok (.invokevirtual 243, 3) := by decide +kernel
theorem dX12_render_56 : decode cX12_render 56 = .ok (.return_, 1) := by decide +kernel
set_option maxRecDepth 20000 in
theorem ggX12_renderedLength_X12_isCitation : GoodIn wsX12_renderedLength wsX12_isCitation := goodIn_r _ [6, 7, 8, 9, 5, 10, 160, 161, 162, 163, 164, 165, 166, 167, 168, 169, 170, 171, 172, 173, 174, 175, 176, 177, 178] (by decide +kernel) (by decide +kernel)
set_option maxRecDepth 20000 in
theorem gX12_renderedLength_X12_isCitation : GoodIn wsX12_renderedLength (wsV RX12 143 RX12 yX12_isCitation wsX12_isCitation) := goodIn_app (goodIn_of _ (by decide +kernel)) ggX12_renderedLength_X12_isCitation
set_option maxRecDepth 20000 in
theorem ggX12_renderedLength_X12_render : GoodIn wsX12_renderedLength wsX12_render := goodIn_r _ [14, 1, 7, 15, 16, 17, 5, 18, 19, 20, 21, 22, 23, 24, 25, 26, 27, 28, 29, 30, 31, 32, 33, 34, 35, 36, 37, 38, 39, 40, 41, 42, 43, 44, 45, 46, 47, 48, 49, 50, 51, 52, 53, 54, 55, 56, 57, 58, 59, 60, 61, 62, 63, 64, 65, 66, 67, 68, 69, 70, 71, 72, 73, 74, 75, 76, 77, 78, 79, 80, 81, 82, 83, 84, 85, 86, 87, 88, 89, 90, 91, 92, 93, 94, 95, 96, 97, 98, 99, 100, 101, 102, 103, 104, 105, 106, 107, 108, 109, 110, 111, 112, 113, 114, 115, 116, 117, 118, 119, 120, 121, 122, 123, 124, 125, 126, 127, 128, 129, 130, 131, 132, 133, 134, 135, 136, 137, 138, 139, 140, 141, 142, 143, 144, 145, 146, 147, 148, 149, 150, 151, 152, 153, 154, 155, 156, 157, 158, 159, 160, 161, 162, 163, 164, 165, 166, 167, 168, 169, 170, 171, 172, 173, 174, 175, 176, 177, 178] (by decide +kernel) (by decide +kernel)
set_option maxRecDepth 20000 in
theorem gX12_renderedLength_X12_render : GoodIn wsX12_renderedLength (wsV RX12 246 RX12 yX12_render wsX12_render) := goodIn_app (goodIn_of _ (by decide +kernel)) ggX12_renderedLength_X12_render
theorem dX12_renderedLength_0 : decode cX12_renderedLength 0 = .ok (.aload_n 0, 1) := by decide +kernel
theorem dX12_renderedLength_1 : decode cX12_renderedLength 1 = .ok (.iload_n 1, 1) := by decide +kernel
theorem dX12_renderedLength_2 : decode cX12_renderedLength 2 = .ok (.invokevirtual 143, 3) := by decide +kernel
theorem dX12_renderedLength_5 : decode cX12_renderedLength 5 = .ok (.ifCond .ne 5, 3) := by decide +kernel
theorem dX12_renderedLength_8 : decode cX12_renderedLength 8 = .ok (.iconst (-1), 1) := by decide +kernel
theorem dX12_renderedLength_9 : decode cX12_renderedLength 9 = .ok (.ireturn, 1) := by decide +kernel
theorem dX12_renderedLength_10 : decode cX12_renderedLength 10 = .ok (.aload_n 0, 1) := by decide +kernel
theorem dX12_renderedLength_11 : decode cX12_renderedLength 11 = .ok (.iload_n 1, 1) := by decide +kernel
theorem dX12_renderedLength_12 : decode cX12_renderedLength 12 = .ok (.invokevirtual 246, 3) := by decide +kernel
theorem dX12_renderedLength_15 : decode cX12_renderedLength 15 = .ok (.aload_n 0, 1) := by decide +kernel
theorem dX12_renderedLength_16 : decode cX12_renderedLength 16 = .ok (.getfield 206, 3) := by decide +kernel
theorem dX12_renderedLength_19 : decode cX12_renderedLength 19 = .ok (.ireturn, 1) := by decide +kernel
set_option maxRecDepth 20000 in
theorem ggX12_renderedCharacter_X12_isCitation : GoodIn wsX12_renderedCharacter wsX12_isCitation := goodIn_r _ [7, 8, 9, 10, 6, 11, 160, 161, 162, 163, 164, 165, 166, 167, 168, 169, 170, 171, 172, 173, 174, 175, 176, 177, 178] (by decide +kernel) (by decide +kernel)
set_option maxRecDepth 20000 in
theorem gX12_renderedCharacter_X12_isCitation : GoodIn wsX12_renderedCharacter (wsV RX12 143 RX12 yX12_isCitation wsX12_isCitation) := goodIn_app (goodIn_of _ (by decide +kernel)) ggX12_renderedCharacter_X12_isCitation
set_option maxRecDepth 20000 in
theorem ggX12_renderedCharacter_X12_render : GoodIn wsX12_renderedCharacter wsX12_render := goodIn_r _ [15, 1, 8, 16, 17, 18, 6, 19, 20, 21, 22, 23, 24, 25, 26, 27, 28, 29, 30, 31, 32, 33, 34, 35, 36, 37, 38, 39, 40, 41, 42, 43, 44, 45, 46, 47, 48, 49, 50, 51, 52, 53, 54, 55, 56, 57, 58, 59, 60, 61, 62, 63, 64, 65, 66, 67, 68, 69, 70, 71, 72, 73, 74, 75, 76, 77, 78, 79, 80, 81, 82, 83, 84, 85, 86, 87, 88, 89, 90, 91, 92, 93, 94, 95, 96, 97, 98, 99, 100, 101, 102, 103, 104, 105, 106, 107, 108, 109, 110, 111, 112, 113, 114, 115, 116, 117, 118, 119, 120, 121, 122, 123, 2, 124, 125, 126, 127, 128, 129, 130, 131, 132, 133, 134, 135, 136, 137, 138, 139, 140, 141, 142, 143, 144, 145, 146, 147, 148, 149, 150, 151, 152, 153, 154, 155, 156, 157, 158, 159, 160, 161, 162, 163, 164, 165, 166, 167, 168, 169, 170, 171, 172, 173, 174, 175, 176, 177, 178] (by decide +kernel) (by decide +kernel)
set_option maxRecDepth 20000 in
theorem gX12_renderedCharacter_X12_render : GoodIn wsX12_renderedCharacter (wsV RX12 246 RX12 yX12_render wsX12_render) := goodIn_app (goodIn_of _ (by decide +kernel)) ggX12_renderedCharacter_X12_render
theorem dX12_renderedCharacter_0 : decode cX12_renderedCharacter 0 = .ok (.aload_n 0, 1) := by decide +kernel
theorem dX12_renderedCharacter_1 : decode cX12_renderedCharacter 1 = .ok (.iload_n 1, 1) := by decide +kernel
theorem dX12_renderedCharacter_2 : decode cX12_renderedCharacter 2 = .ok (.invokevirtual 143, 3) := by decide +kernel
theorem dX12_renderedCharacter_5 : decode cX12_renderedCharacter 5 = .ok (.ifCond .eq 7, 3) := by decide +kernel
theorem dX12_renderedCharacter_8 : decode cX12_renderedCharacter 8 = .ok (.iload_n 2, 1) := by decide +kernel
theorem dX12_renderedCharacter_9 : decode cX12_renderedCharacter 9 = .ok (.ifCond .ge 5, 3) := by decide +kernel
theorem dX12_renderedCharacter_12 : decode cX12_renderedCharacter 12 = .ok (.iconst (-1), 1) := by decide +kernel
theorem dX12_renderedCharacter_13 : decode cX12_renderedCharacter 13 = .ok (.ireturn, 1) := by decide +kernel
theorem dX12_renderedCharacter_14 : decode cX12_renderedCharacter 14 = .ok (.aload_n 0, 1) := by decide +kernel
theorem dX12_renderedCharacter_15 : decode cX12_renderedCharacter 15 = .ok (.iload_n 1, 1) := by decide +kernel
theorem dX12_renderedCharacter_16 : decode cX12_renderedCharacter 16 = .ok (.invokevirtual 246, 3) := by decide +kernel
theorem dX12_renderedCharacter_19 : decode cX12_renderedCharacter 19 = .ok (.iload_n 2, 1) := by decide +kernel
theorem dX12_renderedCharacter_20 : decode cX12_renderedCharacter 20 = .ok (.aload_n 0, 1) := by decide +kernel
theorem dX12_renderedCharacter_21 : decode cX12_renderedCharacter 21 = .ok (.getfield 206, 3) := by decide +kernel
theorem dX12_renderedCharacter_24 : decode cX12_renderedCharacter 24 = .ok (.if_icmp .ge 12, 3) := by decide +kernel
theorem dX12_renderedCharacter_27 : decode cX12_renderedCharacter 27 = .ok (.aload_n 0, 1) := by decide +kernel
theorem dX12_renderedCharacter_28 : decode cX12_renderedCharacter 28 = .ok (.getfield 44, 3) := by decide +kernel
theorem dX12_renderedCharacter_31 : decode cX12_renderedCharacter 31 = .ok (.iload_n 2, 1) := by decide +kernel
theorem dX12_renderedCharacter_32 : decode cX12_renderedCharacter 32 = .ok (.iaload, 1) := by decide +kernel
theorem dX12_renderedCharacter_33 : decode cX12_renderedCharacter 33 = .ok (.goto 5, 3) := by decide +kernel
theorem dX12_renderedCharacter_36 : decode cX12_renderedCharacter 36 = .ok (.bipush (-9), 2) := by decide +kernel
theorem dX12_renderedCharacter_38 : decode cX12_renderedCharacter 38 = .ok (.ireturn, 1) := by decide +kernel
set_option maxRecDepth 20000 in
theorem ggX12_entryCharacter_X12_in : GoodIn wsX12_entryCharacter wsX12_in := goodIn_r _ [8] (by decide +kernel) (by decide +kernel)
set_option maxRecDepth 20000 in
theorem gX12_entryCharacter_X12_in : GoodIn wsX12_entryCharacter (va_wsS RX12 50 yX12_in wsX12_in) := goodIn_app (goodIn_of _ (by decide +kernel)) ggX12_entryCharacter_X12_in
set_option maxRecDepth 20000 in
theorem ggX12_entryCharacter_X12_layLabels : GoodIn wsX12_entryCharacter wsX12_layLabels := goodIn_r _ [12, 1, 13, 14, 15, 16, 17, 18, 7, 19, 3, 20, 21, 22, 23, 24, 25, 26, 27, 28, 29, 30, 31, 32, 33, 34, 35, 36, 37, 38, 39, 40, 41, 42, 43, 44, 45, 46, 47, 48, 49, 50, 51, 52, 53, 54, 55, 56, 57, 58, 59, 60, 61, 62, 63, 64, 65, 66, 67, 68, 69, 70, 71, 72, 73, 74, 75, 76, 77, 78, 79, 80, 81, 82, 83, 84, 85, 86, 87, 88, 89, 90, 91, 92, 93, 94, 119, 120, 121, 122, 123, 124, 125, 126, 127, 128, 129, 130, 131, 132, 133, 134, 135, 136, 137] (by decide +kernel) (by decide +kernel)
set_option maxRecDepth 20000 in
theorem gX12_entryCharacter_X12_layLabels : GoodIn wsX12_entryCharacter (wsV RX12 203 RX12 yX12_layLabels wsX12_layLabels) := goodIn_app (goodIn_of _ (by decide +kernel)) ggX12_entryCharacter_X12_layLabels
set_option maxRecDepth 20000 in
theorem ggX12_entryCharacter_X12_listed : GoodIn wsX12_entryCharacter wsX12_listed := goodIn_r _ [98, 1, 3, 20, 119, 120, 121, 122, 123, 124, 125, 126, 127, 128, 129, 130, 131, 132, 133, 134, 135, 136, 137] (by decide +kernel) (by decide +kernel)
set_option maxRecDepth 20000 in
theorem gX12_entryCharacter_X12_listed : GoodIn wsX12_entryCharacter (wsV RX12 167 RX12 yX12_listed wsX12_listed) := goodIn_app (goodIn_of _ (by decide +kernel)) ggX12_entryCharacter_X12_listed
set_option maxRecDepth 20000 in
theorem ggX12_entryCharacter_X12_put : GoodIn wsX12_entryCharacter wsX12_put := goodIn_r _ [102, 4, 2, 119, 120, 121, 122, 123, 124, 125, 126, 127, 128, 129, 130, 131, 132, 133, 134, 135, 136, 137] (by decide +kernel) (by decide +kernel)
set_option maxRecDepth 20000 in
theorem gX12_entryCharacter_X12_put : GoodIn wsX12_entryCharacter (wsV RX12 209 RX12 yX12_put wsX12_put) := goodIn_app (goodIn_of _ (by decide +kernel)) ggX12_entryCharacter_X12_put
set_option maxRecDepth 20000 in
theorem ggX12_entryCharacter_X12_placeIn : GoodIn wsX12_entryCharacter wsX12_placeIn := goodIn_r _ [106] (by decide +kernel) (by decide +kernel)
set_option maxRecDepth 20000 in
theorem gX12_entryCharacter_X12_placeIn : GoodIn wsX12_entryCharacter (wsV RX12 170 RX12 yX12_placeIn wsX12_placeIn) := goodIn_app (goodIn_of _ (by decide +kernel)) ggX12_entryCharacter_X12_placeIn
set_option maxRecDepth 20000 in
theorem ggX12_entryCharacter_X12_authors : GoodIn wsX12_entryCharacter wsX12_authors := goodIn_r _ [36, 1, 119, 120, 121, 122, 123, 124, 125, 126, 127, 128, 129, 130, 131, 132, 133, 134, 135, 136, 137] (by decide +kernel) (by decide +kernel)
set_option maxRecDepth 20000 in
theorem gX12_entryCharacter_X12_authors : GoodIn wsX12_entryCharacter (wsV RX12 146 RX12 yX12_authors wsX12_authors) := goodIn_app (goodIn_of _ (by decide +kernel)) ggX12_entryCharacter_X12_authors
set_option maxRecDepth 20000 in
theorem ggX12_entryCharacter_X12_putAuthors : GoodIn wsX12_entryCharacter wsX12_putAuthors := goodIn_r _ [110, 99, 100, 101, 7, 102, 4, 2, 37, 38, 39, 40, 1, 119, 120, 121, 122, 123, 124, 125, 126, 127, 128, 129, 130, 131, 132, 133, 134, 135, 136, 137] (by decide +kernel) (by decide +kernel)
set_option maxRecDepth 20000 in
theorem gX12_entryCharacter_X12_putAuthors : GoodIn wsX12_entryCharacter (wsV RX12 212 RX12 yX12_putAuthors wsX12_putAuthors) := goodIn_app (goodIn_of _ (by decide +kernel)) ggX12_entryCharacter_X12_putAuthors
set_option maxRecDepth 20000 in
theorem ggX12_entryCharacter_X12_putYear : GoodIn wsX12_entryCharacter wsX12_putYear := goodIn_r _ [114, 41, 42, 43, 7, 44, 1, 99, 100, 101, 102, 4, 2, 119, 120, 121, 122, 123, 124, 125, 126, 127, 128, 129, 130, 131, 132, 133, 134, 135, 136, 137] (by decide +kernel) (by decide +kernel)
set_option maxRecDepth 20000 in
theorem gX12_entryCharacter_X12_putYear : GoodIn wsX12_entryCharacter (wsV RX12 222 RX12 yX12_putYear wsX12_putYear) := goodIn_app (goodIn_of _ (by decide +kernel)) ggX12_entryCharacter_X12_putYear
set_option maxRecDepth 20000 in
theorem ggX12_entryCharacter_X12_putSuffix : GoodIn wsX12_entryCharacter wsX12_putSuffix := goodIn_r _ [118, 15, 99, 100, 101, 7, 102, 4, 2, 119, 120, 121, 122, 123, 124, 125, 126, 127, 128, 129, 130, 131, 132, 133, 134, 135, 136, 137] (by decide +kernel) (by decide +kernel)
set_option maxRecDepth 20000 in
theorem gX12_entryCharacter_X12_putSuffix : GoodIn wsX12_entryCharacter (wsV RX12 225 RX12 yX12_putSuffix wsX12_putSuffix) := goodIn_app (goodIn_of _ (by decide +kernel)) ggX12_entryCharacter_X12_putSuffix
set_option maxRecDepth 20000 in
theorem ggX12_entryCharacter_X12_title : GoodIn wsX12_entryCharacter wsX12_title := goodIn_r _ [48, 1, 119, 120, 121, 122, 123, 124, 125, 126, 127, 128, 129, 130, 131, 132, 133, 134, 135, 136, 137] (by decide +kernel) (by decide +kernel)
set_option maxRecDepth 20000 in
theorem gX12_entryCharacter_X12_title : GoodIn wsX12_entryCharacter (wsV RX12 158 RX12 yX12_title wsX12_title) := goodIn_app (goodIn_of _ (by decide +kernel)) ggX12_entryCharacter_X12_title
theorem dX12_entryCharacter_0 : decode cX12_entryCharacter 0 = .ok (.iload_n 1, 1) := by decide +kernel
theorem dX12_entryCharacter_1 : decode cX12_entryCharacter 1 = .ok (.i2l, 1) := by decide +kernel
theorem dX12_entryCharacter_2 : decode cX12_entryCharacter 2 = .ok (.lconst 0, 1) := by decide +kernel
theorem dX12_entryCharacter_3 : decode cX12_entryCharacter 3 = .ok (.aload_n 0, 1) := by decide +kernel
theorem dX12_entryCharacter_4 : decode cX12_entryCharacter 4 = .ok (.getfield 7, 3) := by decide +kernel
theorem dX12_entryCharacter_7 : decode cX12_entryCharacter 7 = .ok (.iconst 0, 1) := by decide +kernel
theorem dX12_entryCharacter_8 : decode cX12_entryCharacter 8 = .ok (.iaload, 1) := by decide +kernel
theorem dX12_entryCharacter_9 : decode cX12_entryCharacter 9 = .ok (.iconst 1, 1) := by decide +kernel
theorem dX12_entryCharacter_10 : decode cX12_entryCharacter 10 = .ok (.isub, 1) := by decide +kernel
theorem dX12_entryCharacter_11 : decode cX12_entryCharacter 11 = .ok (.i2l, 1) := by decide +kernel
theorem dX12_entryCharacter_12 : decode cX12_entryCharacter 12 = .ok (.invokestatic 50, 3) := by decide +kernel
theorem dX12_entryCharacter_15 : decode cX12_entryCharacter 15 = .ok (.ifCond .eq 7, 3) := by decide +kernel
theorem dX12_entryCharacter_18 : decode cX12_entryCharacter 18 = .ok (.iload_n 2, 1) := by decide +kernel
theorem dX12_entryCharacter_19 : decode cX12_entryCharacter 19 = .ok (.ifCond .ge 5, 3) := by decide +kernel
theorem dX12_entryCharacter_22 : decode cX12_entryCharacter 22 = .ok (.iconst (-1), 1) := by decide +kernel
theorem dX12_entryCharacter_23 : decode cX12_entryCharacter 23 = .ok (.ireturn, 1) := by decide +kernel
theorem dX12_entryCharacter_24 : decode cX12_entryCharacter 24 = .ok (.aload_n 0, 1) := by decide +kernel
theorem dX12_entryCharacter_25 : decode cX12_entryCharacter 25 = .ok (.invokevirtual 203, 3) := by decide +kernel
theorem dX12_entryCharacter_28 : decode cX12_entryCharacter 28 = .ok (.aload_n 0, 1) := by decide +kernel
theorem dX12_entryCharacter_29 : decode cX12_entryCharacter 29 = .ok (.iconst 0, 1) := by decide +kernel
theorem dX12_entryCharacter_30 : decode cX12_entryCharacter 30 = .ok (.putfield 206, 3) := by decide +kernel
theorem dX12_entryCharacter_33 : decode cX12_entryCharacter 33 = .ok (.aload_n 0, 1) := by decide +kernel
theorem dX12_entryCharacter_34 : decode cX12_entryCharacter 34 = .ok (.iload_n 1, 1) := by decide +kernel
theorem dX12_entryCharacter_35 : decode cX12_entryCharacter 35 = .ok (.invokevirtual 167, 3) := by decide +kernel
theorem dX12_entryCharacter_38 : decode cX12_entryCharacter 38 = .ok (.istore_n 3, 1) := by decide +kernel
theorem dX12_entryCharacter_39 : decode cX12_entryCharacter 39 = .ok (.aload_n 0, 1) := by decide +kernel
theorem dX12_entryCharacter_40 : decode cX12_entryCharacter 40 = .ok (.getfield 7, 3) := by decide +kernel
theorem dX12_entryCharacter_43 : decode cX12_entryCharacter 43 = .ok (.bipush 57, 2) := by decide +kernel
theorem dX12_entryCharacter_45 : decode cX12_entryCharacter 45 = .ok (.iaload, 1) := by decide +kernel
theorem dX12_entryCharacter_46 : decode cX12_entryCharacter 46 = .ok (.iconst 1, 1) := by decide +kernel
theorem dX12_entryCharacter_47 : decode cX12_entryCharacter 47 = .ok (.if_icmp .ne 33, 3) := by decide +kernel
theorem dX12_entryCharacter_50 : decode cX12_entryCharacter 50 = .ok (.aload_n 0, 1) := by decide +kernel
theorem dX12_entryCharacter_51 : decode cX12_entryCharacter 51 = .ok (.bipush 91, 2) := by decide +kernel
theorem dX12_entryCharacter_53 : decode cX12_entryCharacter 53 = .ok (.invokevirtual 209, 3) := by decide +kernel
theorem dX12_entryCharacter_56 : decode cX12_entryCharacter 56 = .ok (.aload_n 0, 1) := by decide +kernel
theorem dX12_entryCharacter_57 : decode cX12_entryCharacter 57 = .ok (.bipush 48, 2) := by decide +kernel
theorem dX12_entryCharacter_59 : decode cX12_entryCharacter 59 = .ok (.aload_n 0, 1) := by decide +kernel
theorem dX12_entryCharacter_60 : decode cX12_entryCharacter 60 = .ok (.aload_n 0, 1) := by decide +kernel
theorem dX12_entryCharacter_61 : decode cX12_entryCharacter 61 = .ok (.getfield 25, 3) := by decide +kernel
theorem dX12_entryCharacter_64 : decode cX12_entryCharacter 64 = .ok (.iload_n 3, 1) := by decide +kernel
theorem dX12_entryCharacter_65 : decode cX12_entryCharacter 65 = .ok (.invokevirtual 170, 3) := by decide +kernel
theorem dX12_entryCharacter_68 : decode cX12_entryCharacter 68 = .ok (.iadd, 1) := by decide +kernel
theorem dX12_entryCharacter_69 : decode cX12_entryCharacter 69 = .ok (.iconst 1, 1) := by decide +kernel
theorem dX12_entryCharacter_70 : decode cX12_entryCharacter 70 = .ok (.iadd, 1) := by decide +kernel
theorem dX12_entryCharacter_71 : decode cX12_entryCharacter 71 = .ok (.invokevirtual 209, 3) := by decide +kernel
theorem dX12_entryCharacter_74 : decode cX12_entryCharacter 74 = .ok (.aload_n 0, 1) := by decide +kernel
theorem dX12_entryCharacter_75 : decode cX12_entryCharacter 75 = .ok (.bipush 93, 2) := by decide +kernel
theorem dX12_entryCharacter_77 : decode cX12_entryCharacter 77 = .ok (.invokevirtual 209, 3) := by decide +kernel
theorem dX12_entryCharacter_80 : decode cX12_entryCharacter 80 = .ok (.aload_n 0, 1) := by decide +kernel
theorem dX12_entryCharacter_81 : decode cX12_entryCharacter 81 = .ok (.iload_n 3, 1) := by decide +kernel
theorem dX12_entryCharacter_82 : decode cX12_entryCharacter 82 = .ok (.aload_n 0, 1) := by decide +kernel
theorem dX12_entryCharacter_83 : decode cX12_entryCharacter 83 = .ok (.iload_n 3, 1) := by decide +kernel
theorem dX12_entryCharacter_84 : decode cX12_entryCharacter 84 = .ok (.invokevirtual 146, 3) := by decide +kernel
theorem dX12_entryCharacter_87 : decode cX12_entryCharacter 87 = .ok (.iconst 1, 1) := by decide +kernel
theorem dX12_entryCharacter_88 : decode cX12_entryCharacter 88 = .ok (.invokevirtual 212, 3) := by decide +kernel
theorem dX12_entryCharacter_91 : decode cX12_entryCharacter 91 = .ok (.aload_n 0, 1) := by decide +kernel
theorem dX12_entryCharacter_92 : decode cX12_entryCharacter 92 = .ok (.bipush 40, 2) := by decide +kernel
theorem dX12_entryCharacter_94 : decode cX12_entryCharacter 94 = .ok (.invokevirtual 209, 3) := by decide +kernel
theorem dX12_entryCharacter_97 : decode cX12_entryCharacter 97 = .ok (.aload_n 0, 1) := by decide +kernel
theorem dX12_entryCharacter_98 : decode cX12_entryCharacter 98 = .ok (.iload_n 3, 1) := by decide +kernel
theorem dX12_entryCharacter_99 : decode cX12_entryCharacter 99 = .ok (.invokevirtual 222, 3) := by decide +kernel
theorem dX12_entryCharacter_102 : decode cX12_entryCharacter 102 = .ok (.aload_n 0, 1) := by decide +kernel
theorem dX12_entryCharacter_103 : decode cX12_entryCharacter 103 = .ok (.getfield 7, 3) := by decide +kernel
theorem dX12_entryCharacter_106 : decode cX12_entryCharacter 106 = .ok (.bipush 57, 2) := by decide +kernel
theorem dX12_entryCharacter_108 : decode cX12_entryCharacter 108 = .ok (.iaload, 1) := by decide +kernel
theorem dX12_entryCharacter_109 : decode cX12_entryCharacter 109 = .ok (.ifCond .ne 8, 3) := by decide +kernel
theorem dX12_entryCharacter_112 : decode cX12_entryCharacter 112 = .ok (.aload_n 0, 1) := by decide +kernel
theorem dX12_entryCharacter_113 : decode cX12_entryCharacter 113 = .ok (.iload_n 3, 1) := by decide +kernel
theorem dX12_entryCharacter_114 : decode cX12_entryCharacter 114 = .ok (.invokevirtual 225, 3) := by decide +kernel
theorem dX12_entryCharacter_117 : decode cX12_entryCharacter 117 = .ok (.aload_n 0, 1) := by decide +kernel
theorem dX12_entryCharacter_118 : decode cX12_entryCharacter 118 = .ok (.bipush 41, 2) := by decide +kernel
theorem dX12_entryCharacter_120 : decode cX12_entryCharacter 120 = .ok (.invokevirtual 209, 3) := by decide +kernel
theorem dX12_entryCharacter_123 : decode cX12_entryCharacter 123 = .ok (.aload_n 0, 1) := by decide +kernel
theorem dX12_entryCharacter_124 : decode cX12_entryCharacter 124 = .ok (.bipush 97, 2) := by decide +kernel
theorem dX12_entryCharacter_126 : decode cX12_entryCharacter 126 = .ok (.aload_n 0, 1) := by decide +kernel
theorem dX12_entryCharacter_127 : decode cX12_entryCharacter 127 = .ok (.iload_n 3, 1) := by decide +kernel
theorem dX12_entryCharacter_128 : decode cX12_entryCharacter 128 = .ok (.invokevirtual 158, 3) := by decide +kernel
theorem dX12_entryCharacter_131 : decode cX12_entryCharacter 131 = .ok (.iadd, 1) := by decide +kernel
theorem dX12_entryCharacter_132 : decode cX12_entryCharacter 132 = .ok (.invokevirtual 209, 3) := by decide +kernel
theorem dX12_entryCharacter_135 : decode cX12_entryCharacter 135 = .ok (.aload_n 0, 1) := by decide +kernel
theorem dX12_entryCharacter_136 : decode cX12_entryCharacter 136 = .ok (.bipush 46, 2) := by decide +kernel
theorem dX12_entryCharacter_138 : decode cX12_entryCharacter 138 = .ok (.invokevirtual 209, 3) := by decide +kernel
theorem dX12_entryCharacter_141 : decode cX12_entryCharacter 141 = .ok (.iload_n 2, 1) := by decide +kernel
theorem dX12_entryCharacter_142 : decode cX12_entryCharacter 142 = .ok (.aload_n 0, 1) := by decide +kernel
theorem dX12_entryCharacter_143 : decode cX12_entryCharacter 143 = .ok (.getfield 206, 3) := by decide +kernel
theorem dX12_entryCharacter_146 : decode cX12_entryCharacter 146 = .ok (.if_icmp .ge 12, 3) := by decide +kernel
theorem dX12_entryCharacter_149 : decode cX12_entryCharacter 149 = .ok (.aload_n 0, 1) := by decide +kernel
theorem dX12_entryCharacter_150 : decode cX12_entryCharacter 150 = .ok (.getfield 44, 3) := by decide +kernel
theorem dX12_entryCharacter_153 : decode cX12_entryCharacter 153 = .ok (.iload_n 2, 1) := by decide +kernel
theorem dX12_entryCharacter_154 : decode cX12_entryCharacter 154 = .ok (.iaload, 1) := by decide +kernel
theorem dX12_entryCharacter_155 : decode cX12_entryCharacter 155 = .ok (.goto 5, 3) := by decide +kernel
theorem dX12_entryCharacter_158 : decode cX12_entryCharacter 158 = .ok (.bipush (-9), 2) := by decide +kernel
theorem dX12_entryCharacter_160 : decode cX12_entryCharacter 160 = .ok (.ireturn, 1) := by decide +kernel
theorem dJ9_max_7cf53_0 : decode cJ9_max_7cf53 0 = .ok (.iload_n 0, 1) := by decide +kernel
theorem dJ9_max_7cf53_1 : decode cJ9_max_7cf53 1 = .ok (.iload_n 1, 1) := by decide +kernel
theorem dJ9_max_7cf53_2 : decode cJ9_max_7cf53 2 = .ok (.if_icmp .lt 7, 3) := by decide +kernel
theorem dJ9_max_7cf53_5 : decode cJ9_max_7cf53 5 = .ok (.iload_n 0, 1) := by decide +kernel
theorem dJ9_max_7cf53_6 : decode cJ9_max_7cf53 6 = .ok (.goto 4, 3) := by decide +kernel
theorem dJ9_max_7cf53_9 : decode cJ9_max_7cf53 9 = .ok (.iload_n 1, 1) := by decide +kernel
theorem dJ9_max_7cf53_10 : decode cJ9_max_7cf53 10 = .ok (.ireturn, 1) := by decide +kernel
theorem dJ9_min_7cf53_0 : decode cJ9_min_7cf53 0 = .ok (.iload_n 0, 1) := by decide +kernel
theorem dJ9_min_7cf53_1 : decode cJ9_min_7cf53 1 = .ok (.iload_n 1, 1) := by decide +kernel
theorem dJ9_min_7cf53_2 : decode cJ9_min_7cf53 2 = .ok (.if_icmp .gt 7, 3) := by decide +kernel
theorem dJ9_min_7cf53_5 : decode cJ9_min_7cf53 5 = .ok (.iload_n 0, 1) := by decide +kernel
theorem dJ9_min_7cf53_6 : decode cJ9_min_7cf53 6 = .ok (.goto 4, 3) := by decide +kernel
theorem dJ9_min_7cf53_9 : decode cJ9_min_7cf53 9 = .ok (.iload_n 1, 1) := by decide +kernel
theorem dJ9_min_7cf53_10 : decode cJ9_min_7cf53 10 = .ok (.ireturn, 1) := by decide +kernel
