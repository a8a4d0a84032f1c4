theorem dX11_authorCount_1 : decode cX11_authorCount 1 = .ok (.getfield 43, 3) := by decide +kernel
theorem dX11_authorCount_4 : decode cX11_authorCount 4 = .ok (.iload_n 1, 1) := by decide +kernel
theorem dX11_authorCount_5 : decode cX11_authorCount 5 = .ok (.invokevirtual 133, 3) := by decide +kernel
theorem dX11_authorCount_8 : decode cX11_authorCount 8 = .ok (.ifCond .eq 15, 3) := by decide +kernel
theorem dX11_authorCount_11 : decode cX11_authorCount 11 = .ok (.aload_n 0, 1) := by decide +kernel
theorem dX11_authorCount_12 : decode cX11_authorCount 12 = .ok (.getfield 43, 3) := by decide +kernel
theorem dX11_authorCount_15 : decode cX11_authorCount 15 = .ok (.getfield 196, 3) := by decide +kernel
theorem dX11_authorCount_18 : decode cX11_authorCount 18 = .ok (.iload_n 1, 1) := by decide +kernel
theorem dX11_authorCount_19 : decode cX11_authorCount 19 = .ok (.iaload, 1) := by decide +kernel
theorem dX11_authorCount_20 : decode cX11_authorCount 20 = .ok (.goto 4, 3) := by decide +kernel
theorem dX11_authorCount_23 : decode cX11_authorCount 23 = .ok (.iconst (-1), 1) := by decide +kernel
theorem dX11_authorCount_24 : decode cX11_authorCount 24 = .ok (.ireturn, 1) := by decide +kernel
theorem dX11_citationCount_0 : decode cX11_citationCount 0 = .ok (.aload_n 0, 1) := by decide +kernel
theorem dX11_citationCount_1 : decode cX11_citationCount 1 = .ok (.getfield 53, 3) := by decide +kernel
theorem dX11_citationCount_4 : decode cX11_citationCount 4 = .ok (.getfield 116, 3) := by decide +kernel
theorem dX11_citationCount_7 : decode cX11_citationCount 7 = .ok (.ireturn, 1) := by decide +kernel
set_option maxRecDepth 20000 in
theorem ggX11_citationSize_X1_has : GoodIn wsX11_citationSize wsX1_has := goodIn_r _ [7, 8, 20, 21, 22] (by decide +kernel) (by decide +kernel)
set_option maxRecDepth 20000 in
theorem gX11_citationSize_X1_has : GoodIn wsX11_citationSize (wsV RX11 190 RX1 yX1_has wsX1_has) := goodIn_app (goodIn_of _ (by decide +kernel)) ggX11_citationSize_X1_has
theorem dX11_citationSize_0 : decode cX11_citationSize 0 = .ok (.aload_n 0, 1) := by decide +kernel
theorem dX11_citationSize_1 : decode cX11_citationSize 1 = .ok (.getfield 53, 3) := by decide +kernel
theorem dX11_citationSize_4 : decode cX11_citationSize 4 = .ok (.iload_n 1, 1) := by decide +kernel
theorem dX11_citationSize_5 : decode cX11_citationSize 5 = .ok (.invokevirtual 190, 3) := by decide +kernel
theorem dX11_citationSize_8 : decode cX11_citationSize 8 = .ok (.ifCond .eq 15, 3) := by decide +kernel
theorem dX11_citationSize_11 : decode cX11_citationSize 11 = .ok (.aload_n 0, 1) := by decide +kernel
theorem dX11_citationSize_12 : decode cX11_citationSize 12 = .ok (.getfield 53, 3) := by decide +kernel
theorem dX11_citationSize_15 : decode cX11_citationSize 15 = .ok (.getfield 183, 3) := by decide +kernel
theorem dX11_citationSize_18 : decode cX11_citationSize 18 = .ok (.iload_n 1, 1) := by decide +kernel
theorem dX11_citationSize_19 : decode cX11_citationSize 19 = .ok (.iaload, 1) := by decide +kernel
theorem dX11_citationSize_20 : decode cX11_citationSize 20 = .ok (.goto 4, 3) := by decide +kernel
theorem dX11_citationSize_23 : decode cX11_citationSize 23 = .ok (.iconst (-1), 1) := by decide +kernel
theorem dX11_citationSize_24 : decode cX11_citationSize 24 = .ok (.ireturn, 1) := by decide +kernel
set_option maxRecDepth 20000 in
theorem ggX11_bibliographyAt_X9_has : GoodIn wsX11_bibliographyAt wsX9_has := goodIn_r _ [8, 9, 80, 81, 82, 83, 84, 85] (by decide +kernel) (by decide +kernel)
set_option maxRecDepth 20000 in
theorem gX11_bibliographyAt_X9_has : GoodIn wsX11_bibliographyAt (wsV RX11 133 RX9 yX9_has wsX9_has) := goodIn_app (goodIn_of _ (by decide +kernel)) ggX11_bibliographyAt_X9_has
set_option maxRecDepth 20000 in
theorem ggX11_bibliographyAt_X0_update : GoodIn wsX11_bibliographyAt wsX0_update := goodIn_r _ [14, 15, 16, 17, 18, 19, 20, 21, 22, 23, 24, 13, 25, 26, 27, 28, 29, 30, 31, 32, 33, 34, 35, 36, 37, 38, 39, 40, 7, 41, 42, 43, 44, 45, 46, 47, 48, 49, 50, 51, 52, 53, 54, 55, 56, 57, 58, 59, 60, 61, 62, 74, 75, 76, 77, 78, 79, 80, 81, 82, 83, 84, 85, 86, 87, 88, 89, 90, 91, 92, 93, 94, 95, 96, 97] (by decide +kernel) (by decide +kernel)
set_option maxRecDepth 20000 in
theorem gX11_bibliographyAt_X0_update : GoodIn wsX11_bibliographyAt (wsV RX11 125 RX0 yX0_update wsX0_update) := goodIn_app (goodIn_of _ (by decide +kernel)) ggX11_bibliographyAt_X0_update
theorem dX11_bibliographyAt_0 : decode cX11_bibliographyAt 0 = .ok (.aload_n 0, 1) := by decide +kernel
theorem dX11_bibliographyAt_1 : decode cX11_bibliographyAt 1 = .ok (.getfield 43, 3) := by decide +kernel
theorem dX11_bibliographyAt_4 : decode cX11_bibliographyAt 4 = .ok (.iload_n 1, 1) := by decide +kernel
theorem dX11_bibliographyAt_5 : decode cX11_bibliographyAt 5 = .ok (.invokevirtual 133, 3) := by decide +kernel
theorem dX11_bibliographyAt_8 : decode cX11_bibliographyAt 8 = .ok (.ifCond .ne 5, 3) := by decide +kernel
theorem dX11_bibliographyAt_11 : decode cX11_bibliographyAt 11 = .ok (.iconst (-1), 1) := by decide +kernel
theorem dX11_bibliographyAt_12 : decode cX11_bibliographyAt 12 = .ok (.ireturn, 1) := by decide +kernel
theorem dX11_bibliographyAt_13 : decode cX11_bibliographyAt 13 = .ok (.aload_n 0, 1) := by decide +kernel
theorem dX11_bibliographyAt_14 : decode cX11_bibliographyAt 14 = .ok (.getfield 66, 3) := by decide +kernel
theorem dX11_bibliographyAt_17 : decode cX11_bibliographyAt 17 = .ok (.invokevirtual 125, 3) := by decide +kernel
theorem dX11_bibliographyAt_20 : decode cX11_bibliographyAt 20 = .ok (.aload_n 0, 1) := by decide +kernel
theorem dX11_bibliographyAt_21 : decode cX11_bibliographyAt 21 = .ok (.getfield 66, 3) := by decide +kernel
theorem dX11_bibliographyAt_24 : decode cX11_bibliographyAt 24 = .ok (.getfield 199, 3) := by decide +kernel
theorem dX11_bibliographyAt_27 : decode cX11_bibliographyAt 27 = .ok (.iload_n 1, 1) := by decide +kernel
theorem dX11_bibliographyAt_28 : decode cX11_bibliographyAt 28 = .ok (.iaload, 1) := by decide +kernel
theorem dX11_bibliographyAt_29 : decode cX11_bibliographyAt 29 = .ok (.ireturn, 1) := by decide +kernel
set_option maxRecDepth 20000 in
theorem ggX11_numberOf_X9_has : GoodIn wsX11_numberOf wsX9_has := goodIn_r _ [8, 9, 80, 81, 82, 83, 84, 85] (by decide +kernel) (by decide +kernel)
set_option maxRecDepth 20000 in
theorem gX11_numberOf_X9_has : GoodIn wsX11_numberOf (wsV RX11 133 RX9 yX9_has wsX9_has) := goodIn_app (goodIn_of _ (by decide +kernel)) ggX11_numberOf_X9_has
set_option maxRecDepth 20000 in
theorem ggX11_numberOf_X0_update : GoodIn wsX11_numberOf wsX0_update := goodIn_r _ [14, 15, 16, 17, 18, 19, 20, 21, 22, 23, 24, 13, 25, 26, 27, 28, 29, 30, 31, 32, 33, 34, 35, 36, 37, 38, 39, 40, 7, 41, 42, 43, 44, 45, 46, 47, 48, 49, 50, 51, 52, 53, 54, 55, 56, 57, 58, 59, 60, 61, 62, 74, 75, 76, 77, 78, 79, 80, 81, 82, 83, 84, 85, 86, 87, 88, 89, 90, 91, 92, 93, 94, 95, 96, 97] (by decide +kernel) (by decide +kernel)
set_option maxRecDepth 20000 in
theorem gX11_numberOf_X0_update : GoodIn wsX11_numberOf (wsV RX11 125 RX0 yX0_update wsX0_update) := goodIn_app (goodIn_of _ (by decide +kernel)) ggX11_numberOf_X0_update
theorem dX11_numberOf_0 : decode cX11_numberOf 0 = .ok (.aload_n 0, 1) := by decide +kernel
theorem dX11_numberOf_1 : decode cX11_numberOf 1 = .ok (.getfield 43, 3) := by decide +kernel
theorem dX11_numberOf_4 : decode cX11_numberOf 4 = .ok (.iload_n 1, 1) := by decide +kernel
theorem dX11_numberOf_5 : decode cX11_numberOf 5 = .ok (.invokevirtual 133, 3) := by decide +kernel
theorem dX11_numberOf_8 : decode cX11_numberOf 8 = .ok (.ifCond .ne 5, 3) := by decide +kernel
theorem dX11_numberOf_11 : decode cX11_numberOf 11 = .ok (.iconst (-1), 1) := by decide +kernel
theorem dX11_numberOf_12 : decode cX11_numberOf 12 = .ok (.ireturn, 1) := by decide +kernel
theorem dX11_numberOf_13 : decode cX11_numberOf 13 = .ok (.aload_n 0, 1) := by decide +kernel
theorem dX11_numberOf_14 : decode cX11_numberOf 14 = .ok (.getfield 66, 3) := by decide +kernel
theorem dX11_numberOf_17 : decode cX11_numberOf 17 = .ok (.invokevirtual 125, 3) := by decide +kernel
theorem dX11_numberOf_20 : decode cX11_numberOf 20 = .ok (.aload_n 0, 1) := by decide +kernel
theorem dX11_numberOf_21 : decode cX11_numberOf 21 = .ok (.getfield 66, 3) := by decide +kernel
theorem dX11_numberOf_24 : decode cX11_numberOf 24 = .ok (.getfield 202, 3) := by decide +kernel
theorem dX11_numberOf_27 : decode cX11_numberOf 27 = .ok (.iload_n 1, 1) := by decide +kernel
theorem dX11_numberOf_28 : decode cX11_numberOf 28 = .ok (.iaload, 1) := by decide +kernel
theorem dX11_numberOf_29 : decode cX11_numberOf 29 = .ok (.ireturn, 1) := by decide +kernel
set_option maxRecDepth 20000 in
theorem ggX11_shownAuthors_X9_has : GoodIn wsX11_shownAuthors wsX9_has := goodIn_r _ [8, 9, 168, 169, 170, 171, 172, 173] (by decide +kernel) (by decide +kernel)
set_option maxRecDepth 20000 in
theorem gX11_shownAuthors_X9_has : GoodIn wsX11_shownAuthors (wsV RX11 133 RX9 yX9_has wsX9_has) := goodIn_app (goodIn_of _ (by decide +kernel)) ggX11_shownAuthors_X9_has
set_option maxRecDepth 20000 in
theorem ggX11_shownAuthors_X3_update : GoodIn wsX11_shownAuthors wsX3_update := goodIn_r _ [14, 15, 16, 17, 18, 19, 20, 21, 22, 23, 24, 25, 26, 27, 28, 29, 30, 31, 32, 33, 34, 35, 36, 37, 38, 39, 40, 41, 42, 43, 44, 45, 46, 47, 48, 49, 50, 51, 7, 52, 53, 54, 55, 56, 57, 58, 59, 60, 61, 62, 63, 64, 65, 66, 67, 68, 69, 70, 71, 72, 73, 74, 75, 76, 13, 77, 78, 79, 80, 81, 82, 83, 84, 85, 86, 87, 88, 89, 90, 91, 92, 93, 94, 95, 96, 97, 98, 99, 100, 101, 102, 103, 104, 105, 106, 107, 108, 109, 110, 111, 112, 113, 114, 115, 116, 117, 118, 119, 120, 121, 122, 123, 124, 125, 126, 127, 128, 129, 130, 131, 132, 133, 134, 135, 136, 137, 138, 139, 140, 141, 142, 143, 144, 145, 146, 147, 148, 160, 161, 162, 163, 164, 165, 166, 167, 168, 169, 170, 171, 172, 173, 174, 175, 176, 177, 178, 179, 180, 181, 182, 183, 184, 185, 186, 187, 188, 189, 190, 191] (by decide +kernel) (by decide +kernel)
set_option maxRecDepth 20000 in
theorem gX11_shownAuthors_X3_update : GoodIn wsX11_shownAuthors (wsV RX11 205 RX3 yX3_update wsX3_update) := goodIn_app (goodIn_of _ (by decide +kernel)) ggX11_shownAuthors_X3_update
theorem dX11_shownAuthors_0 : decode cX11_shownAuthors 0 = .ok (.aload_n 0, 1) := by decide +kernel
theorem dX11_shownAuthors_1 : decode cX11_shownAuthors 1 = .ok (.getfield 43, 3) := by decide +kernel
theorem dX11_shownAuthors_4 : decode cX11_shownAuthors 4 = .ok (.iload_n 1, 1) := by decide +kernel
theorem dX11_shownAuthors_5 : decode cX11_shownAuthors 5 = .ok (.invokevirtual 133, 3) := by decide +kernel
theorem dX11_shownAuthors_8 : decode cX11_shownAuthors 8 = .ok (.ifCond .ne 5, 3) := by decide +kernel
theorem dX11_shownAuthors_11 : decode cX11_shownAuthors 11 = .ok (.iconst (-1), 1) := by decide +kernel
theorem dX11_shownAuthors_12 : decode cX11_shownAuthors 12 = .ok (.ireturn, 1) := by decide +kernel
theorem dX11_shownAuthors_13 : decode cX11_shownAuthors 13 = .ok (.aload_n 0, 1) := by decide +kernel
theorem dX11_shownAuthors_14 : decode cX11_shownAuthors 14 = .ok (.getfield 75, 3) := by decide +kernel
theorem dX11_shownAuthors_17 : decode cX11_shownAuthors 17 = .ok (.invokevirtual 205, 3) := by decide +kernel
theorem dX11_shownAuthors_20 : decode cX11_shownAuthors 20 = .ok (.aload_n 0, 1) := by decide +kernel
theorem dX11_shownAuthors_21 : decode cX11_shownAuthors 21 = .ok (.getfield 75, 3) := by decide +kernel
theorem dX11_shownAuthors_24 : decode cX11_shownAuthors 24 = .ok (.getfield 206, 3) := by decide +kernel
theorem dX11_shownAuthors_27 : decode cX11_shownAuthors 27 = .ok (.iload_n 1, 1) := by decide +kernel
theorem dX11_shownAuthors_28 : decode cX11_shownAuthors 28 = .ok (.iaload, 1) := by decide +kernel
theorem dX11_shownAuthors_29 : decode cX11_shownAuthors 29 = .ok (.ireturn, 1) := by decide +kernel
set_option maxRecDepth 20000 in
theorem ggX11_showsInitials_X9_has : GoodIn wsX11_showsInitials wsX9_has := goodIn_r _ [8, 9, 168, 169, 170, 171, 172, 173] (by decide +kernel) (by decide +kernel)
set_option maxRecDepth 20000 in
theorem gX11_showsInitials_X9_has : GoodIn wsX11_showsInitials (wsV RX11 133 RX9 yX9_has wsX9_has) := goodIn_app (goodIn_of _ (by decide +kernel)) ggX11_showsInitials_X9_has
set_option maxRecDepth 20000 in
theorem ggX11_showsInitials_X3_update : GoodIn wsX11_showsInitials wsX3_update := goodIn_r _ [14, 15, 16, 17, 18, 19, 20, 21, 22, 23, 24, 25, 26, 27, 28, 29, 30, 31, 32, 33, 34, 35, 36, 37, 38, 39, 40, 41, 42, 43, 44, 45, 46, 47, 48, 49, 50, 51, 7, 52, 53, 54, 55, 56, 57, 58, 59, 60, 61, 62, 63, 64, 65, 66, 67, 68, 69, 70, 71, 72, 73, 74, 75, 76, 13, 77, 78, 79, 80, 81, 82, 83, 84, 85, 86, 87, 88, 89, 90, 91, 92, 93, 94, 95, 96, 97, 98, 99, 100, 101, 102, 103, 104, 105, 106, 107, 108, 109, 110, 111, 112, 113, 114, 115, 116, 117, 118, 119, 120, 121, 122, 123, 124, 125, 126, 127, 128, 129, 130, 131, 132, 133, 134, 135, 136, 137, 138, 139, 140, 141, 142, 143, 144, 145, 146, 147, 148, 160, 161, 162, 163, 164, 165, 166, 167, 168, 169, 170, 171, 172, 173, 174, 175, 176, 177, 178, 179, 180, 181, 182, 183, 184, 185, 186, 187, 188, 189, 190, 191] (by decide +kernel) (by decide +kernel)
set_option maxRecDepth 20000 in
theorem gX11_showsInitials_X3_update : GoodIn wsX11_showsInitials (wsV RX11 205 RX3 yX3_update wsX3_update) := goodIn_app (goodIn_of _ (by decide +kernel)) ggX11_showsInitials_X3_update
theorem dX11_showsInitials_0 : decode cX11_showsInitials 0 = .ok (.aload_n 0, 1) := by decide +kernel
theorem dX11_showsInitials_1 : decode cX11_showsInitials 1 = .ok (.getfield 43, 3) := by decide +kernel
theorem dX11_showsInitials_4 : decode cX11_showsInitials 4 = .ok (.iload_n 1, 1) := by decide +kernel
theorem dX11_showsInitials_5 : decode cX11_showsInitials 5 = .ok (.invokevirtual 133, 3) := by decide +kernel
theorem dX11_showsInitials_8 : decode cX11_showsInitials 8 = .ok (.ifCond .ne 5, 3) := by decide +kernel
theorem dX11_showsInitials_11 : decode cX11_showsInitials 11 = .ok (.iconst (-1), 1) := by decide +kernel
theorem dX11_showsInitials_12 : decode cX11_showsInitials 12 = .ok (.ireturn, 1) := by decide +kernel
theorem dX11_showsInitials_13 : decode cX11_showsInitials 13 = .ok (.aload_n 0, 1) := by decide +kernel
theorem dX11_showsInitials_14 : decode cX11_showsInitials 14 = .ok (.getfield 75, 3) := by decide +kernel
theorem dX11_showsInitials_17 : decode cX11_showsInitials 17 = .ok (.invokevirtual 205, 3) := by decide +kernel
theorem dX11_showsInitials_20 : decode cX11_showsInitials 20 = .ok (.aload_n 0, 1) := by decide +kernel
theorem dX11_showsInitials_21 : decode cX11_showsInitials 21 = .ok (.getfield 75, 3) := by decide +kernel
theorem dX11_showsInitials_24 : decode cX11_showsInitials 24 = .ok (.getfield 209, 3) := by decide +kernel
theorem dX11_showsInitials_27 : decode cX11_showsInitials 27 = .ok (.iload_n 1, 1) := by decide +kernel
theorem dX11_showsInitials_28 : decode cX11_showsInitials 28 = .ok (.baload, 1) := by decide +kernel
theorem dX11_showsInitials_29 : decode cX11_showsInitials 29 = .ok (.ifCond .eq 7, 3) := by decide +kernel
theorem dX11_showsInitials_32 : decode cX11_showsInitials 32 = .ok (.iconst 1, 1) := by decide +kernel
theorem dX11_showsInitials_33 : decode cX11_showsInitials 33 = .ok (.goto 4, 3) := by decide +kernel
theorem dX11_showsInitials_36 : decode cX11_showsInitials 36 = .ok (.iconst 0, 1) := by decide +kernel
theorem dX11_showsInitials_37 : decode cX11_showsInitials 37 = .ok (.ireturn, 1) := by decide +kernel
set_option maxRecDepth 20000 in
theorem ggX11_suffixOf_X9_has : GoodIn wsX11_suffixOf wsX9_has := goodIn_r _ [8, 9, 168, 169, 170, 171, 172, 173] (by decide +kernel) (by decide +kernel)
set_option maxRecDepth 20000 in
theorem gX11_suffixOf_X9_has : GoodIn wsX11_suffixOf (wsV RX11 133 RX9 yX9_has wsX9_has) := goodIn_app (goodIn_of _ (by decide +kernel)) ggX11_suffixOf_X9_has
set_option maxRecDepth 20000 in
theorem ggX11_suffixOf_X3_update : GoodIn wsX11_suffixOf wsX3_update := goodIn_r _ [14, 15, 16, 17, 18, 19, 20, 21, 22, 23, 24, 25, 26, 27, 28, 29, 30, 31, 32, 33, 34, 35, 36, 37, 38, 39, 40, 41, 42, 43, 44, 45, 46, 47, 48, 49, 50, 51, 7, 52, 53, 54, 55, 56, 57, 58, 59, 60, 61, 62, 63, 64, 65, 66, 67, 68, 69, 70, 71, 72, 73, 74, 75, 76, 13, 77, 78, 79, 80, 81, 82, 83, 84, 85, 86, 87, 88, 89, 90, 91, 92, 93, 94, 95, 96, 97, 98, 99, 100, 101, 102, 103, 104, 105, 106, 107, 108, 109, 110, 111, 112, 113, 114, 115, 116, 117, 118, 119, 120, 121, 122, 123, 124, 125, 126, 127, 128, 129, 130, 131, 132, 133, 134, 135, 136, 137, 138, 139, 140, 141, 142, 143, 144, 145, 146, 147, 148, 160, 161, 162, 163, 164, 165, 166, 167, 168, 169, 170, 171, 172, 173, 174, 175, 176, 177, 178, 179, 180, 181, 182, 183, 184, 185, 186, 187, 188, 189, 190, 191] (by decide +kernel) (by decide +kernel)
set_option maxRecDepth 20000 in
theorem gX11_suffixOf_X3_update : GoodIn wsX11_suffixOf (wsV RX11 205 RX3 yX3_update wsX3_update) := goodIn_app (goodIn_of _ (by decide +kernel)) ggX11_suffixOf_X3_update
theorem dX11_suffixOf_0 : decode cX11_suffixOf 0 = .ok (.aload_n 0, 1) := by decide +kernel
theorem dX11_suffixOf_1 : decode cX11_suffixOf 1 = .ok (.getfield 43, 3) := by decide +kernel
theorem dX11_suffixOf_4 : decode cX11_suffixOf 4 = .ok (.iload_n 1, 1) := by decide +kernel
theorem dX11_suffixOf_5 : decode cX11_suffixOf 5 = .ok (.invokevirtual 133, 3) := by decide +kernel
theorem dX11_suffixOf_8 : decode cX11_suffixOf 8 = .ok (.ifCond .ne 5, 3) := by decide +kernel
theorem dX11_suffixOf_11 : decode cX11_suffixOf 11 = .ok (.iconst (-1), 1) := by decide +kernel
theorem dX11_suffixOf_12 : decode cX11_suffixOf 12 = .ok (.ireturn, 1) := by decide +kernel
theorem dX11_suffixOf_13 : decode cX11_suffixOf 13 = .ok (.aload_n 0, 1) := by decide +kernel
theorem dX11_suffixOf_14 : decode cX11_suffixOf 14 = .ok (.getfield 75, 3) := by decide +kernel
theorem dX11_suffixOf_17 : decode cX11_suffixOf 17 = .ok (.invokevirtual 205, 3) := by decide +kernel
theorem dX11_suffixOf_20 : decode cX11_suffixOf 20 = .ok (.aload_n 0, 1) := by decide +kernel
theorem dX11_suffixOf_21 : decode cX11_suffixOf 21 = .ok (.getfield 75, 3) := by decide +kernel
theorem dX11_suffixOf_24 : decode cX11_suffixOf 24 = .ok (.getfield 213, 3) := by decide +kernel
theorem dX11_suffixOf_27 : decode cX11_suffixOf 27 = .ok (.iload_n 1, 1) := by decide +kernel
theorem dX11_suffixOf_28 : decode cX11_suffixOf 28 = .ok (.iaload, 1) := by decide +kernel
theorem dX11_suffixOf_29 : decode cX11_suffixOf 29 = .ok (.ifCond .ne 8, 3) := by decide +kernel
theorem dX11_suffixOf_32 : decode cX11_suffixOf 32 = .ok (.bipush (-9), 2) := by decide +kernel
theorem dX11_suffixOf_34 : decode cX11_suffixOf 34 = .ok (.goto 12, 3) := by decide +kernel
theorem dX11_suffixOf_37 : decode cX11_suffixOf 37 = .ok (.aload_n 0, 1) := by decide +kernel
theorem dX11_suffixOf_38 : decode cX11_suffixOf 38 = .ok (.getfield 75, 3) := by decide +kernel
theorem dX11_suffixOf_41 : decode cX11_suffixOf 41 = .ok (.getfield 213, 3) := by decide +kernel
theorem dX11_suffixOf_44 : decode cX11_suffixOf 44 = .ok (.iload_n 1, 1) := by decide +kernel
theorem dX11_suffixOf_45 : decode cX11_suffixOf 45 = .ok (.iaload, 1) := by decide +kernel
theorem dX11_suffixOf_46 : decode cX11_suffixOf 46 = .ok (.ireturn, 1) := by decide +kernel
set_option maxRecDepth 20000 in
theorem ggX11_ambiguousWith_X9_has : GoodIn wsX11_ambiguousWith wsX9_has := goodIn_r _ [7, 8, 160, 161, 162, 163, 164, 165] (by decide +kernel) (by decide +kernel)
set_option maxRecDepth 20000 in
theorem gX11_ambiguousWith_X9_has : GoodIn wsX11_ambiguousWith (wsV RX11 133 RX9 yX9_has wsX9_has) := goodIn_app (goodIn_of _ (by decide +kernel)) ggX11_ambiguousWith_X9_has
set_option maxRecDepth 20000 in
theorem ggX11_ambiguousWith_X3_update : GoodIn wsX11_ambiguousWith wsX3_update := goodIn_r _ [13, 14, 15, 16, 17, 18, 19, 20, 21, 22, 23, 24, 25, 26, 27, 28, 29, 30, 31, 32, 33, 34, 35, 36, 37, 38, 39, 40, 41, 42, 43, 44, 45, 46, 47, 48, 49, 50, 6, 51, 52, 53, 54, 55, 56, 57, 58, 59, 60, 61, 62, 63, 64, 65, 66, 67, 68, 69, 70, 71, 72, 73, 74, 75, 12, 76, 77, 78, 79, 80, 81, 82, 83, 84, 85, 86, 87, 88, 89, 90, 91, 92, 93, 94, 95, 96, 97, 98, 99, 100, 101, 102, 103, 104, 105, 106, 107, 108, 109, 110, 111, 112, 113, 114, 115, 116, 117, 118, 119, 120, 121, 122, 123, 124, 125, 126, 127, 128, 129, 130, 131, 132, 133, 134, 135, 136, 137, 138, 139, 140, 141, 142, 143, 144, 145, 146, 147, 166, 167, 168, 169, 170, 171, 172, 173, 160, 161, 162, 163, 164, 165, 174, 175, 176, 177, 178, 179, 180, 181, 182, 183, 184, 185, 186, 187, 188, 189, 190, 191] (by decide +kernel) (by decide +kernel)
set_option maxRecDepth 20000 in
theorem gX11_ambiguousWith_X3_update : GoodIn wsX11_ambiguousWith (wsV RX11 205 RX3 yX3_update wsX3_update) := goodIn_app (goodIn_of _ (by decide +kernel)) ggX11_ambiguousWith_X3_update
set_option maxRecDepth 20000 in
theorem ggX11_ambiguousWith_X3_worksLabelledLike : GoodIn wsX11_ambiguousWith wsX3_worksLabelledLike := goodIn_r _ [105, 15, 16, 106, 17, 107, 108, 109, 12, 110, 92, 166, 167, 168, 169, 170, 171, 172, 173, 160, 161, 162, 163, 164, 165] (by decide +kernel) (by decide +kernel)
set_option maxRecDepth 20000 in
theorem gX11_ambiguousWith_X3_worksLabelledLike : GoodIn wsX11_ambiguousWith (wsV RX11 216 RX3 yX3_worksLabelledLike wsX3_worksLabelledLike) := goodIn_app (goodIn_of _ (by decide +kernel)) ggX11_ambiguousWith_X3_worksLabelledLike
theorem dX11_ambiguousWith_0 : decode cX11_ambiguousWith 0 = .ok (.aload_n 0, 1) := by decide +kernel
theorem dX11_ambiguousWith_1 : decode cX11_ambiguousWith 1 = .ok (.getfield 43, 3) := by decide +kernel
theorem dX11_ambiguousWith_4 : decode cX11_ambiguousWith 4 = .ok (.iload_n 1, 1) := by decide +kernel
theorem dX11_ambiguousWith_5 : decode cX11_ambiguousWith 5 = .ok (.invokevirtual 133, 3) := by decide +kernel
theorem dX11_ambiguousWith_8 : decode cX11_ambiguousWith 8 = .ok (.ifCond .ne 5, 3) := by decide +kernel
theorem dX11_ambiguousWith_11 : decode cX11_ambiguousWith 11 = .ok (.iconst (-1), 1) := by decide +kernel
theorem dX11_ambiguousWith_12 : decode cX11_ambiguousWith 12 = .ok (.ireturn, 1) := by decide +kernel
theorem dX11_ambiguousWith_13 : decode cX11_ambiguousWith 13 = .ok (.aload_n 0, 1) := by decide +kernel
theorem dX11_ambiguousWith_14 : decode cX11_ambiguousWith 14 = .ok (.getfield 75, 3) := by decide +kernel
theorem dX11_ambiguousWith_17 : decode cX11_ambiguousWith 17 = .ok (.invokevirtual 205, 3) := by decide +kernel
theorem dX11_ambiguousWith_20 : decode cX11_ambiguousWith 20 = .ok (.aload_n 0, 1) := by decide +kernel
theorem dX11_ambiguousWith_21 : decode cX11_ambiguousWith 21 = .ok (.getfield 75, 3) := by decide +kernel
theorem dX11_ambiguousWith_24 : decode cX11_ambiguousWith 24 = .ok (.iload_n 1, 1) := by decide +kernel
theorem dX11_ambiguousWith_25 : decode cX11_ambiguousWith 25 = .ok (.invokevirtual 216, 3) := by decide +kernel
theorem dX11_ambiguousWith_28 : decode cX11_ambiguousWith 28 = .ok (.iconst 1, 1) := by decide +kernel
theorem dX11_ambiguousWith_29 : decode cX11_ambiguousWith 29 = .ok (.iload_n 1, 1) := by decide +kernel
theorem dX11_ambiguousWith_30 : decode cX11_ambiguousWith 30 = .ok (.ishl, 1) := by decide +kernel
theorem dX11_ambiguousWith_31 : decode cX11_ambiguousWith 31 = .ok (.iconst (-1), 1) := by decide +kernel
theorem dX11_ambiguousWith_32 : decode cX11_ambiguousWith 32 = .ok (.ixor, 1) := by decide +kernel
theorem dX11_ambiguousWith_33 : decode cX11_ambiguousWith 33 = .ok (.iand, 1) := by decide +kernel
theorem dX11_ambiguousWith_34 : decode cX11_ambiguousWith 34 = .ok (.ireturn, 1) := by decide +kernel
set_option maxRecDepth 20000 in
theorem ggX11_renderedLength_X1_has : GoodIn wsX11_renderedLength wsX1_has := goodIn_r _ [9, 10, 289, 290, 291] (by decide +kernel) (by decide +kernel)
set_option maxRecDepth 20000 in
theorem gX11_renderedLength_X1_has : GoodIn wsX11_renderedLength (wsV RX11 190 RX1 yX1_has wsX1_has) := goodIn_app (goodIn_of _ (by decide +kernel)) ggX11_renderedLength_X1_has
set_option maxRecDepth 20000 in
theorem ggX11_renderedLength_X3_update : GoodIn wsX11_renderedLength wsX3_update := goodIn_r _ [15, 16, 17, 18, 19, 20, 21, 22, 23, 24, 25, 26, 27, 28, 29, 30, 31, 32, 33, 34, 35, 36, 37, 38, 39, 40, 41, 42, 43, 44, 45, 46, 47, 48, 49, 50, 51, 52, 53, 54, 55, 56, 57, 58, 59, 60, 61, 62, 63, 64, 65, 66, 67, 68, 69, 70, 71, 72, 8, 73, 74, 75, 76, 77, 14, 78, 79, 80, 81, 82, 83, 84, 85, 86, 87, 88, 89, 90, 91, 92, 93, 94, 95, 96, 97, 98, 99, 100, 101, 102, 103, 104, 105, 106, 107, 108, 109, 110, 111, 112, 113, 114, 115, 116, 117, 118, 119, 120, 121, 122, 123, 124, 125, 126, 127, 128, 129, 130, 131, 132, 133, 134, 135, 136, 137, 138, 139, 140, 141, 142, 143, 144, 145, 146, 147, 148, 149, 292, 293, 294, 295, 296, 297, 298, 299, 300, 301, 302, 303, 304, 305, 306, 307, 308, 309, 310, 311, 312, 313, 314, 315, 316, 317, 318, 319, 320, 289, 290, 291] (by decide +kernel) (by decide +kernel)
set_option maxRecDepth 20000 in
theorem gX11_renderedLength_X3_update : GoodIn wsX11_renderedLength (wsV RX11 205 RX3 yX3_update wsX3_update) := goodIn_app (goodIn_of _ (by decide +kernel)) ggX11_renderedLength_X3_update
set_option maxRecDepth 20000 in
theorem ggX11_renderedLength_X5_renderCitation : GoodIn wsX11_renderedLength wsX5_renderCitation := goodIn_r _ [154, 155, 156, 157, 158, 159, 160, 153, 161, 162, 163, 164, 165, 166, 167, 168, 169, 170, 71, 72, 8, 73, 74, 171, 172, 173, 174, 175, 176, 177, 178, 179, 180, 181, 182, 183, 184, 185, 186, 187, 188, 189, 190, 191, 192, 193, 194, 195, 196, 197, 110, 111, 14, 112, 94, 198, 199, 200, 201, 202, 203, 204, 205, 206, 207, 208, 209, 210, 211, 212, 213, 214, 215, 216, 217, 218, 219, 220, 221, 222, 223, 224, 225, 226, 227, 228, 229, 230, 231, 232, 96, 97, 98, 90, 17, 79, 233, 234, 235, 236, 237, 238, 239, 240, 241, 242, 243, 244, 245, 246, 247, 248, 249, 250, 251, 252, 253, 254, 255, 256, 257, 258, 259, 260, 261, 262, 10, 263, 264, 265, 266, 267, 268, 280, 281, 282, 283, 284, 285, 286, 287, 288, 306, 307, 308, 309, 310, 311, 312, 313, 314, 289, 290, 291, 300, 301, 302, 303, 304, 305, 315, 316, 317, 318, 319, 320, 292, 293, 294, 295, 296, 297, 298, 299] (by decide +kernel) (by decide +kernel)
set_option maxRecDepth 20000 in
theorem gX11_renderedLength_X5_renderCitation : GoodIn wsX11_renderedLength (wsV RX11 219 RX5 yX5_renderCitation wsX5_renderCitation) := goodIn_app (goodIn_of _ (by decide +kernel)) ggX11_renderedLength_X5_renderCitation
theorem dX11_renderedLength_0 : decode cX11_renderedLength 0 = .ok (.aload_n 0, 1) := by decide +kernel
theorem dX11_renderedLength_1 : decode cX11_renderedLength 1 = .ok (.getfield 53, 3) := by decide +kernel
theorem dX11_renderedLength_4 : decode cX11_renderedLength 4 = .ok (.iload_n 1, 1) := by decide +kernel
theorem dX11_renderedLength_5 : decode cX11_renderedLength 5 = .ok (.invokevirtual 190, 3) := by decide +kernel
theorem dX11_renderedLength_8 : decode cX11_renderedLength 8 = .ok (.ifCond .ne 5, 3) := by decide +kernel
theorem dX11_renderedLength_11 : decode cX11_renderedLength 11 = .ok (.iconst (-1), 1) := by decide +kernel
theorem dX11_renderedLength_12 : decode cX11_renderedLength 12 = .ok (.ireturn, 1) := by decide +kernel
theorem dX11_renderedLength_13 : decode cX11_renderedLength 13 = .ok (.aload_n 0, 1) := by decide +kernel
theorem dX11_renderedLength_14 : decode cX11_renderedLength 14 = .ok (.getfield 75, 3) := by decide +kernel
theorem dX11_renderedLength_17 : decode cX11_renderedLength 17 = .ok (.invokevirtual 205, 3) := by decide +kernel
theorem dX11_renderedLength_20 : decode cX11_renderedLength 20 = .ok (.aload_n 0, 1) := by decide +kernel
theorem dX11_renderedLength_21 : decode cX11_renderedLength 21 = .ok (.getfield 84, 3) := by decide +kernel
theorem dX11_renderedLength_24 : decode cX11_renderedLength 24 = .ok (.iload_n 1, 1) := by decide +kernel
theorem dX11_renderedLength_25 : decode cX11_renderedLength 25 = .ok (.invokevirtual 219, 3) := by decide +kernel
theorem dX11_renderedLength_28 : decode cX11_renderedLength 28 = .ok (.aload_n 0, 1) := by decide +kernel
theorem dX11_renderedLength_29 : decode cX11_renderedLength 29 = .ok (.getfield 84, 3) := by decide +kernel
theorem dX11_renderedLength_32 : decode cX11_renderedLength 32 = .ok (.getfield 222, 3) := by decide +kernel
theorem dX11_renderedLength_35 : decode cX11_renderedLength 35 = .ok (.ireturn, 1) := by decide +kernel
set_option maxRecDepth 20000 in
theorem ggX11_renderedCharacter_X1_has : GoodIn wsX11_renderedCharacter wsX1_has := goodIn_r _ [8, 9, 283, 284, 285] (by decide +kernel) (by decide +kernel)
set_option maxRecDepth 20000 in
theorem gX11_renderedCharacter_X1_has : GoodIn wsX11_renderedCharacter (wsV RX11 190 RX1 yX1_has wsX1_has) := goodIn_app (goodIn_of _ (by decide +kernel)) ggX11_renderedCharacter_X1_has
set_option maxRecDepth 20000 in
theorem ggX11_renderedCharacter_X3_update : GoodIn wsX11_renderedCharacter wsX3_update := goodIn_r _ [14, 15, 16, 17, 18, 19, 20, 21, 22, 23, 24, 25, 26, 27, 28, 29, 30, 31, 32, 33, 34, 35, 36, 37, 38, 39, 40, 41, 42, 43, 44, 45, 46, 47, 48, 49, 50, 51, 52, 53, 54, 55, 56, 57, 58, 59, 60, 61, 62, 63, 64, 65, 66, 67, 68, 69, 70, 71, 7, 72, 73, 74, 75, 76, 13, 77, 78, 79, 80, 81, 82, 83, 84, 85, 86, 87, 88, 89, 90, 91, 92, 93, 94, 95, 96, 97, 98, 99, 100, 101, 102, 103, 104, 105, 106, 107, 108, 109, 110, 111, 112, 113, 114, 115, 116, 117, 118, 119, 120, 121, 122, 123, 124, 125, 126, 127, 128, 129, 130, 131, 132, 133, 134, 135, 136, 137, 138, 139, 140, 141, 142, 143, 144, 145, 146, 147, 148, 286, 287, 288, 289, 290, 291, 292, 293, 294, 295, 296, 297, 298, 299, 300, 301, 302, 303, 304, 305, 306, 307, 308, 309, 310, 311, 312, 313, 314, 283, 284, 285] (by decide +kernel) (by decide +kernel)
set_option maxRecDepth 20000 in
theorem gX11_renderedCharacter_X3_update : GoodIn wsX11_renderedCharacter (wsV RX11 205 RX3 yX3_update wsX3_update) := goodIn_app (goodIn_of _ (by decide +kernel)) ggX11_renderedCharacter_X3_update
set_option maxRecDepth 20000 in
theorem ggX11_renderedCharacter_X5_renderCitation : GoodIn wsX11_renderedCharacter wsX5_renderCitation := goodIn_r _ [153, 154, 155, 156, 157, 158, 159, 152, 160, 161, 162, 163, 164, 165, 166, 167, 168, 169, 70, 71, 7, 72, 73, 170, 171, 172, 173, 174, 175, 176, 177, 178, 179, 180, 181, 182, 183, 184, 185, 186, 187, 188, 189, 190, 191, 192, 193, 194, 195, 196, 109, 110, 13, 111, 93, 197, 198, 199, 200, 201, 202, 203, 204, 205, 206, 207, 208, 209, 210, 211, 212, 213, 214, 215, 216, 217, 218, 219, 220, 221, 222, 223, 224, 225, 226, 227, 228, 229, 230, 231, 95, 96, 97, 89, 16, 78, 232, 233, 234, 235, 236, 237, 238, 239, 240, 241, 242, 243, 244, 245, 246, 247, 248, 249, 250, 251, 252, 253, 254, 255, 256, 257, 258, 259, 260, 261, 9, 262, 263, 264, 265, 266, 267, 315, 316, 317, 318, 319, 320, 321, 322, 323, 300, 301, 302, 303, 304, 305, 306, 307, 308, 283, 284, 285, 294, 295, 296, 297, 298, 299, 309, 310, 311, 312, 313, 314, 286, 287, 288, 289, 290, 291, 292, 293] (by decide +kernel) (by decide +kernel)
set_option maxRecDepth 20000 in
theorem gX11_renderedCharacter_X5_renderCitation : GoodIn wsX11_renderedCharacter (wsV RX11 219 RX5 yX5_renderCitation wsX5_renderCitation) := goodIn_app (goodIn_of _ (by decide +kernel)) ggX11_renderedCharacter_X5_renderCitation
set_option maxRecDepth 20000 in
theorem ggX11_renderedCharacter_X5_codeAt : GoodIn wsX11_renderedCharacter wsX5_codeAt := goodIn_r _ [271, 154, 189, 315, 316, 317, 318, 319, 320, 321, 322, 323] (by decide +kernel) (by decide +kernel)
set_option maxRecDepth 20000 in
theorem gX11_renderedCharacter_X5_codeAt : GoodIn wsX11_renderedCharacter (wsV RX11 223 RX5 yX5_codeAt wsX5_codeAt) := goodIn_app (goodIn_of _ (by decide +kernel)) ggX11_renderedCharacter_X5_codeAt
theorem dX11_renderedCharacter_0 : decode cX11_renderedCharacter 0 = .ok (.aload_n 0, 1) := by decide +kernel
theorem dX11_renderedCharacter_1 : decode cX11_renderedCharacter 1 = .ok (.getfield 53, 3) := by decide +kernel
theorem dX11_renderedCharacter_4 : decode cX11_renderedCharacter 4 = .ok (.iload_n 1, 1) := by decide +kernel
theorem dX11_renderedCharacter_5 : decode cX11_renderedCharacter 5 = .ok (.invokevirtual 190, 3) := by decide +kernel
theorem dX11_renderedCharacter_8 : decode cX11_renderedCharacter 8 = .ok (.ifCond .eq 7, 3) := by decide +kernel
theorem dX11_renderedCharacter_11 : decode cX11_renderedCharacter 11 = .ok (.iload_n 2, 1) := by decide +kernel
theorem dX11_renderedCharacter_12 : decode cX11_renderedCharacter 12 = .ok (.ifCond .ge 5, 3) := by decide +kernel
theorem dX11_renderedCharacter_15 : decode cX11_renderedCharacter 15 = .ok (.iconst (-1), 1) := by decide +kernel
theorem dX11_renderedCharacter_16 : decode cX11_renderedCharacter 16 = .ok (.ireturn, 1) := by decide +kernel
theorem dX11_renderedCharacter_17 : decode cX11_renderedCharacter 17 = .ok (.aload_n 0, 1) := by decide +kernel
theorem dX11_renderedCharacter_18 : decode cX11_renderedCharacter 18 = .ok (.getfield 75, 3) := by decide +kernel
theorem dX11_renderedCharacter_21 : decode cX11_renderedCharacter 21 = .ok (.invokevirtual 205, 3) := by decide +kernel
theorem dX11_renderedCharacter_24 : decode cX11_renderedCharacter 24 = .ok (.aload_n 0, 1) := by decide +kernel
theorem dX11_renderedCharacter_25 : decode cX11_renderedCharacter 25 = .ok (.getfield 84, 3) := by decide +kernel
theorem dX11_renderedCharacter_28 : decode cX11_renderedCharacter 28 = .ok (.iload_n 1, 1) := by decide +kernel
theorem dX11_renderedCharacter_29 : decode cX11_renderedCharacter 29 = .ok (.invokevirtual 219, 3) := by decide +kernel
theorem dX11_renderedCharacter_32 : decode cX11_renderedCharacter 32 = .ok (.aload_n 0, 1) := by decide +kernel
theorem dX11_renderedCharacter_33 : decode cX11_renderedCharacter 33 = .ok (.getfield 84, 3) := by decide +kernel
theorem dX11_renderedCharacter_36 : decode cX11_renderedCharacter 36 = .ok (.iload_n 2, 1) := by decide +kernel
theorem dX11_renderedCharacter_37 : decode cX11_renderedCharacter 37 = .ok (.invokevirtual 223, 3) := by decide +kernel
theorem dX11_renderedCharacter_40 : decode cX11_renderedCharacter 40 = .ok (.ireturn, 1) := by decide +kernel
set_option maxRecDepth 20000 in
theorem ggX11_entryCharacter_X9_has : GoodIn wsX11_entryCharacter wsX9_has := goodIn_r _ [10, 11, 215, 216, 217, 218, 219, 220] (by decide +kernel) (by decide +kernel)
set_option maxRecDepth 20000 in
theorem gX11_entryCharacter_X9_has : GoodIn wsX11_entryCharacter (wsV RX11 133 RX9 yX9_has wsX9_has) := goodIn_app (goodIn_of _ (by decide +kernel)) ggX11_entryCharacter_X9_has
set_option maxRecDepth 20000 in
theorem ggX11_entryCharacter_X3_update : GoodIn wsX11_entryCharacter wsX3_update := goodIn_r _ [16, 17, 18, 19, 20, 21, 22, 23, 24, 25, 26, 27, 28, 29, 30, 31, 32, 33, 34, 35, 36, 37, 38, 39, 40, 41, 42, 43, 44, 45, 46, 47, 48, 49, 50, 51, 52, 53, 9, 54, 55, 56, 57, 58, 59, 60, 61, 62, 63, 64, 65, 66, 67, 68, 69, 70, 71, 72, 73, 74, 75, 76, 77, 78, 15, 79, 80, 81, 82, 83, 84, 85, 86, 87, 88, 89, 90, 91, 92, 93, 94, 95, 96, 97, 98, 99, 100, 101, 102, 103, 104, 105, 106, 107, 108, 109, 110, 111, 112, 113, 114, 115, 116, 117, 118, 119, 120, 121, 122, 123, 124, 125, 126, 127, 128, 129, 130, 131, 132, 133, 134, 135, 136, 137, 138, 139, 140, 141, 142, 143, 144, 145, 146, 147, 148, 149, 150, 221, 222, 223, 224, 225, 226, 227, 228, 215, 216, 217, 218, 219, 220, 229, 230, 231, 232, 233, 234, 235, 236, 237, 209, 210, 211, 212, 213, 214, 238, 239, 240] (by decide +kernel) (by decide +kernel)
set_option maxRecDepth 20000 in
theorem gX11_entryCharacter_X3_update : GoodIn wsX11_entryCharacter (wsV RX11 205 RX3 yX3_update wsX3_update) := goodIn_app (goodIn_of _ (by decide +kernel)) ggX11_entryCharacter_X3_update
set_option maxRecDepth 20000 in
theorem ggX11_entryCharacter_X5_renderEntry : GoodIn wsX11_entryCharacter wsX5_renderEntry := goodIn_r _ [155, 156, 157, 158, 159, 160, 161, 162, 163, 164, 165, 154, 166, 167, 168, 169, 170, 171, 172, 173, 174, 175, 176, 177, 178, 179, 180, 181, 182, 183, 184, 185, 186, 187, 188, 189, 190, 191, 192, 193, 241, 242, 243, 244, 245, 246, 247, 248, 249, 229, 230, 231, 232, 233, 234, 235, 236, 237, 209, 210, 211, 212, 213, 214, 215, 216, 217, 218, 219, 220, 221, 222, 223, 224, 225, 226, 227, 228] (by decide +kernel) (by decide +kernel)
set_option maxRecDepth 20000 in
theorem gX11_entryCharacter_X5_renderEntry : GoodIn wsX11_entryCharacter (wsV RX11 226 RX5 yX5_renderEntry wsX5_renderEntry) := goodIn_app (goodIn_of _ (by decide +kernel)) ggX11_entryCharacter_X5_renderEntry
set_option maxRecDepth 20000 in
theorem ggX11_entryCharacter_X5_codeAt : GoodIn wsX11_entryCharacter wsX5_codeAt := goodIn_r _ [197, 156, 167, 241, 242, 243, 244, 245, 246, 247, 248, 249] (by decide +kernel) (by decide +kernel)
set_option maxRecDepth 20000 in
theorem gX11_entryCharacter_X5_codeAt : GoodIn wsX11_entryCharacter (wsV RX11 223 RX5 yX5_codeAt wsX5_codeAt) := goodIn_app (goodIn_of _ (by decide +kernel)) ggX11_entryCharacter_X5_codeAt
theorem dX11_entryCharacter_0 : decode cX11_entryCharacter 0 = .ok (.aload_n 0, 1) := by decide +kernel
theorem dX11_entryCharacter_1 : decode cX11_entryCharacter 1 = .ok (.getfield 43, 3) := by decide +kernel
theorem dX11_entryCharacter_4 : decode cX11_entryCharacter 4 = .ok (.iload_n 1, 1) := by decide +kernel
theorem dX11_entryCharacter_5 : decode cX11_entryCharacter 5 = .ok (.invokevirtual 133, 3) := by decide +kernel
theorem dX11_entryCharacter_8 : decode cX11_entryCharacter 8 = .ok (.ifCond .eq 7, 3) := by decide +kernel
theorem dX11_entryCharacter_11 : decode cX11_entryCharacter 11 = .ok (.iload_n 2, 1) := by decide +kernel
theorem dX11_entryCharacter_12 : decode cX11_entryCharacter 12 = .ok (.ifCond .ge 5, 3) := by decide +kernel
theorem dX11_entryCharacter_15 : decode cX11_entryCharacter 15 = .ok (.iconst (-1), 1) := by decide +kernel
theorem dX11_entryCharacter_16 : decode cX11_entryCharacter 16 = .ok (.ireturn, 1) := by decide +kernel
theorem dX11_entryCharacter_17 : decode cX11_entryCharacter 17 = .ok (.aload_n 0, 1) := by decide +kernel
theorem dX11_entryCharacter_18 : decode cX11_entryCharacter 18 = .ok (.getfield 75, 3) := by decide +kernel
theorem dX11_entryCharacter_21 : decode cX11_entryCharacter 21 = .ok (.invokevirtual 205, 3) := by decide +kernel
theorem dX11_entryCharacter_24 : decode cX11_entryCharacter 24 = .ok (.aload_n 0, 1) := by decide +kernel
theorem dX11_entryCharacter_25 : decode cX11_entryCharacter 25 = .ok (.getfield 84, 3) := by decide +kernel
theorem dX11_entryCharacter_28 : decode cX11_entryCharacter 28 = .ok (.aload_n 0, 1) := by decide +kernel
theorem dX11_entryCharacter_29 : decode cX11_entryCharacter 29 = .ok (.getfield 66, 3) := by decide +kernel
theorem dX11_entryCharacter_32 : decode cX11_entryCharacter 32 = .ok (.getfield 199, 3) := by decide +kernel
theorem dX11_entryCharacter_35 : decode cX11_entryCharacter 35 = .ok (.iload_n 1, 1) := by decide +kernel
theorem dX11_entryCharacter_36 : decode cX11_entryCharacter 36 = .ok (.iaload, 1) := by decide +kernel
theorem dX11_entryCharacter_37 : decode cX11_entryCharacter 37 = .ok (.invokevirtual 226, 3) := by decide +kernel
theorem dX11_entryCharacter_40 : decode cX11_entryCharacter 40 = .ok (.aload_n 0, 1) := by decide +kernel
theorem dX11_entryCharacter_41 : decode cX11_entryCharacter 41 = .ok (.getfield 84, 3) := by decide +kernel
theorem dX11_entryCharacter_44 : decode cX11_entryCharacter 44 = .ok (.iload_n 2, 1) := by decide +kernel
theorem dX11_entryCharacter_45 : decode cX11_entryCharacter 45 = .ok (.invokevirtual 223, 3) := by decide +kernel
theorem dX11_entryCharacter_48 : decode cX11_entryCharacter 48 = .ok (.ireturn, 1) := by decide +kernel
theorem dX11_inRange_0 : decode cX11_inRange 0 = .ok (.iload_n 0, 1) := by decide +kernel
theorem dX11_inRange_1 : decode cX11_inRange 1 = .ok (.iload_n 1, 1) := by decide +kernel
theorem dX11_inRange_2 : decode cX11_inRange 2 = .ok (.if_icmp .lt 12, 3) := by decide +kernel
theorem dX11_inRange_5 : decode cX11_inRange 5 = .ok (.iload_n 0, 1) := by decide +kernel
theorem dX11_inRange_6 : decode cX11_inRange 6 = .ok (.iload_n 2, 1) := by decide +kernel
theorem dX11_inRange_7 : decode cX11_inRange 7 = .ok (.if_icmp .gt 7, 3) := by decide +kernel
theorem dX11_inRange_10 : decode cX11_inRange 10 = .ok (.iconst 1, 1) := by decide +kernel
theorem dX11_inRange_11 : decode cX11_inRange 11 = .ok (.goto 4, 3) := by decide +kernel
theorem dX11_inRange_14 : decode cX11_inRange 14 = .ok (.iconst 0, 1) := by decide +kernel
theorem dX11_inRange_15 : decode cX11_inRange 15 = .ok (.ireturn, 1) := by decide +kernel
theorem dX11_inSet_0 : decode cX11_inSet 0 = .ok (.iload_n 0, 1) := by decide +kernel
theorem dX11_inSet_1 : decode cX11_inSet 1 = .ok (.iload_n 1, 1) := by decide +kernel
theorem dX11_inSet_2 : decode cX11_inSet 2 = .ok (.ishr, 1) := by decide +kernel
theorem dX11_inSet_3 : decode cX11_inSet 3 = .ok (.iconst 1, 1) := by decide +kernel
theorem dX11_inSet_4 : decode cX11_inSet 4 = .ok (.iand, 1) := by decide +kernel
theorem dX11_inSet_5 : decode cX11_inSet 5 = .ok (.iconst 1, 1) := by decide +kernel
theorem dX11_inSet_6 : decode cX11_inSet 6 = .ok (.if_icmp .ne 7, 3) := by decide +kernel
theorem dX11_inSet_9 : decode cX11_inSet 9 = .ok (.iconst 1, 1) := by decide +kernel
theorem dX11_inSet_10 : decode cX11_inSet 10 = .ok (.goto 4, 3) := by decide +kernel
theorem dX11_inSet_13 : decode cX11_inSet 13 = .ok (.iconst 0, 1) := by decide +kernel
theorem dX11_inSet_14 : decode cX11_inSet 14 = .ok (.ireturn, 1) := by decide +kernel
theorem dX11_hasBelow_0 : decode cX11_hasBelow 0 = .ok (.iload_n 0, 1) := by decide +kernel
theorem dX11_hasBelow_1 : decode cX11_hasBelow 1 = .ok (.iconst 1, 1) := by decide +kernel
theorem dX11_hasBelow_2 : decode cX11_hasBelow 2 = .ok (.iload_n 1, 1) := by decide +kernel
theorem dX11_hasBelow_3 : decode cX11_hasBelow 3 = .ok (.ishl, 1) := by decide +kernel
theorem dX11_hasBelow_4 : decode cX11_hasBelow 4 = .ok (.iconst 1, 1) := by decide +kernel
theorem dX11_hasBelow_5 : decode cX11_hasBelow 5 = .ok (.isub, 1) := by decide +kernel
theorem dX11_hasBelow_6 : decode cX11_hasBelow 6 = .ok (.iand, 1) := by decide +kernel
theorem dX11_hasBelow_7 : decode cX11_hasBelow 7 = .ok (.ifCond .eq 7, 3) := by decide +kernel
theorem dX11_hasBelow_10 : decode cX11_hasBelow 10 = .ok (.iconst 1, 1) := by decide +kernel
theorem dX11_hasBelow_11 : decode cX11_hasBelow 11 = .ok (.goto 4, 3) := by decide +kernel
theorem dX11_hasBelow_14 : decode cX11_hasBelow 14 = .ok (.iconst 0, 1) := by decide +kernel
theorem dX11_hasBelow_15 : decode cX11_hasBelow 15 = .ok (.ireturn, 1) := by decide +kernel
theorem dX12_init_0 : decode cX12_init 0 = .ok (.aload_n 0, 1) := by decide +kernel
theorem dX12_init_1 : decode cX12_init 1 = .ok (.invokespecial 1, 3) := by decide +kernel
theorem dX12_init_4 : decode cX12_init 4 = .ok (.aload_n 0, 1) := by decide +kernel
theorem dX12_init_5 : decode cX12_init 5 = .ok (.sipush 131, 3) := by decide +kernel
theorem dX12_init_8 : decode cX12_init 8 = .ok (.newarray .int, 2) := by decide +kernel
theorem dX12_init_10 : decode cX12_init 10 = .ok (.putfield 7, 3) := by decide +kernel
theorem dX12_init_13 : decode cX12_init 13 = .ok (.aload_n 0, 1) := by decide +kernel
theorem dX12_init_14 : decode cX12_init 14 = .ok (.sipush 1048, 3) := by decide +kernel
theorem dX12_init_17 : decode cX12_init 17 = .ok (.newarray .int, 2) := by decide +kernel
theorem dX12_init_19 : decode cX12_init 19 = .ok (.putfield 13, 3) := by decide +kernel
theorem dX12_init_22 : decode cX12_init 22 = .ok (.aload_n 0, 1) := by decide +kernel
theorem dX12_init_23 : decode cX12_init 23 = .ok (.sipush 150, 3) := by decide +kernel
theorem dX12_init_26 : decode cX12_init 26 = .ok (.newarray .int, 2) := by decide +kernel
theorem dX12_init_28 : decode cX12_init 28 = .ok (.putfield 16, 3) := by decide +kernel
theorem dX12_init_31 : decode cX12_init 31 = .ok (.aload_n 0, 1) := by decide +kernel
theorem dX12_init_32 : decode cX12_init 32 = .ok (.bipush 57, 2) := by decide +kernel
theorem dX12_init_34 : decode cX12_init 34 = .ok (.newarray .int, 2) := by decide +kernel
theorem dX12_init_36 : decode cX12_init 36 = .ok (.putfield 19, 3) := by decide +kernel
theorem dX12_init_39 : decode cX12_init 39 = .ok (.aload_n 0, 1) := by decide +kernel
theorem dX12_init_40 : decode cX12_init 40 = .ok (.bipush 8, 2) := by decide +kernel
theorem dX12_init_42 : decode cX12_init 42 = .ok (.newarray .int, 2) := by decide +kernel
theorem dX12_init_44 : decode cX12_init 44 = .ok (.putfield 22, 3) := by decide +kernel
theorem dX12_init_47 : decode cX12_init 47 = .ok (.aload_n 0, 1) := by decide +kernel
theorem dX12_init_48 : decode cX12_init 48 = .ok (.bipush 8, 2) := by decide +kernel
theorem dX12_init_50 : decode cX12_init 50 = .ok (.newarray .int, 2) := by decide +kernel
theorem dX12_init_52 : decode cX12_init 52 = .ok (.putfield 25, 3) := by decide +kernel
theorem dX12_init_55 : decode cX12_init 55 = .ok (.aload_n 0, 1) := by decide +kernel
theorem dX12_init_56 : decode cX12_init 56 = .ok (.bipush 8, 2) := by decide +kernel
theorem dX12_init_58 : decode cX12_init 58 = .ok (.newarray .int, 2) := by decide +kernel
theorem dX12_init_60 : decode cX12_init 60 = .ok (.putfield 28, 3) := by decide +kernel
theorem dX12_init_63 : decode cX12_init 63 = .ok (.aload_n 0, 1) := by decide +kernel
theorem dX12_init_64 : decode cX12_init 64 = .ok (.bipush 8, 2) := by decide +kernel
theorem dX12_init_66 : decode cX12_init 66 = .ok (.newarray .boolean, 2) := by decide +kernel
theorem dX12_init_68 : decode cX12_init 68 = .ok (.putfield 31, 3) := by decide +kernel
theorem dX12_init_71 : decode cX12_init 71 = .ok (.aload_n 0, 1) := by decide +kernel
theorem dX12_init_72 : decode cX12_init 72 = .ok (.bipush 8, 2) := by decide +kernel
theorem dX12_init_74 : decode cX12_init 74 = .ok (.newarray .int, 2) := by decide +kernel
theorem dX12_init_76 : decode cX12_init 76 = .ok (.putfield 35, 3) := by decide +kernel
theorem dX12_init_79 : decode cX12_init 79 = .ok (.aload_n 0, 1) := by decide +kernel
theorem dX12_init_80 : decode cX12_init 80 = .ok (.bipush 8, 2) := by decide +kernel
theorem dX12_init_82 : decode cX12_init 82 = .ok (.newarray .int, 2) := by decide +kernel
theorem dX12_init_84 : decode cX12_init 84 = .ok (.putfield 38, 3) := by decide +kernel
theorem dX12_init_87 : decode cX12_init 87 = .ok (.aload_n 0, 1) := by decide +kernel
theorem dX12_init_88 : decode cX12_init 88 = .ok (.bipush 8, 2) := by decide +kernel
theorem dX12_init_90 : decode cX12_init 90 = .ok (.newarray .int, 2) := by decide +kernel
theorem dX12_init_92 : decode cX12_init 92 = .ok (.putfield 41, 3) := by decide +kernel
theorem dX12_init_95 : decode cX12_init 95 = .ok (.aload_n 0, 1) := by decide +kernel
theorem dX12_init_96 : decode cX12_init 96 = .ok (.sipush 300, 3) := by decide +kernel
theorem dX12_init_99 : decode cX12_init 99 = .ok (.newarray .int, 2) := by decide +kernel
theorem dX12_init_101 : decode cX12_init 101 = .ok (.putfield 44, 3) := by decide +kernel
theorem dX12_init_104 : decode cX12_init 104 = .ok (.aload_n 0, 1) := by decide +kernel
theorem dX12_init_105 : decode cX12_init 105 = .ok (.iconst 5, 1) := by decide +kernel
theorem dX12_init_106 : decode cX12_init 106 = .ok (.newarray .int, 2) := by decide +kernel
theorem dX12_init_108 : decode cX12_init 108 = .ok (.putfield 47, 3) := by decide +kernel
theorem dX12_init_111 : decode cX12_init 111 = .ok (.aload_n 0, 1) := by decide +kernel
theorem dX12_init_112 : decode cX12_init 112 = .ok (.getfield 7, 3) := by decide +kernel
theorem dX12_init_115 : decode cX12_init 115 = .ok (.bipush 58, 2) := by decide +kernel
theorem dX12_init_117 : decode cX12_init 117 = .ok (.iconst 3, 1) := by decide +kernel
theorem dX12_init_118 : decode cX12_init 118 = .ok (.iastore, 1) := by decide +kernel
theorem dX12_init_119 : decode cX12_init 119 = .ok (.aload_n 0, 1) := by decide +kernel
theorem dX12_init_120 : decode cX12_init 120 = .ok (.getfield 7, 3) := by decide +kernel
theorem dX12_init_123 : decode cX12_init 123 = .ok (.bipush 59, 2) := by decide +kernel
theorem dX12_init_125 : decode cX12_init 125 = .ok (.iconst 1, 1) := by decide +kernel
theorem dX12_init_126 : decode cX12_init 126 = .ok (.iastore, 1) := by decide +kernel
theorem dX12_init_127 : decode cX12_init 127 = .ok (.aload_n 0, 1) := by decide +kernel
theorem dX12_init_128 : decode cX12_init 128 = .ok (.getfield 7, 3) := by decide +kernel
theorem dX12_init_131 : decode cX12_init 131 = .ok (.bipush 60, 2) := by decide +kernel
theorem dX12_init_133 : decode cX12_init 133 = .ok (.bipush 7, 2) := by decide +kernel
theorem dX12_init_135 : decode cX12_init 135 = .ok (.iastore, 1) := by decide +kernel
theorem dX12_init_136 : decode cX12_init 136 = .ok (.aload_n 0, 1) := by decide +kernel
theorem dX12_init_137 : decode cX12_init 137 = .ok (.getfield 7, 3) := by decide +kernel
theorem dX12_init_140 : decode cX12_init 140 = .ok (.bipush 64, 2) := by decide +kernel
theorem dX12_init_142 : decode cX12_init 142 = .ok (.iconst 1, 1) := by decide +kernel
theorem dX12_init_143 : decode cX12_init 143 = .ok (.iastore, 1) := by decide +kernel
theorem dX12_init_144 : decode cX12_init 144 = .ok (.aload_n 0, 1) := by decide +kernel
theorem dX12_init_145 : decode cX12_init 145 = .ok (.getfield 7, 3) := by decide +kernel
theorem dX12_init_148 : decode cX12_init 148 = .ok (.bipush 66, 2) := by decide +kernel
theorem dX12_init_150 : decode cX12_init 150 = .ok (.iconst 2, 1) := by decide +kernel
theorem dX12_init_151 : decode cX12_init 151 = .ok (.iastore, 1) := by decide +kernel
theorem dX12_init_152 : decode cX12_init 152 = .ok (.return_, 1) := by decide +kernel
theorem dX12_in_0 : decode cX12_in 0 = .ok (.lload_n 0, 1) := by decide +kernel
theorem dX12_in_1 : decode cX12_in 1 = .ok (.lload_n 2, 1) := by decide +kernel
theorem dX12_in_2 : decode cX12_in 2 = .ok (.lcmp, 1) := by decide +kernel
theorem dX12_in_3 : decode cX12_in 3 = .ok (.ifCond .lt 14, 3) := by decide +kernel
theorem dX12_in_6 : decode cX12_in 6 = .ok (.lload_n 0, 1) := by decide +kernel
theorem dX12_in_7 : decode cX12_in 7 = .ok (.lload 4, 2) := by decide +kernel
theorem dX12_in_9 : decode cX12_in 9 = .ok (.lcmp, 1) := by decide +kernel
theorem dX12_in_10 : decode cX12_in 10 = .ok (.ifCond .gt 7, 3) := by decide +kernel
theorem dX12_in_13 : decode cX12_in 13 = .ok (.iconst 1, 1) := by decide +kernel
theorem dX12_in_14 : decode cX12_in 14 = .ok (.goto 4, 3) := by decide +kernel
theorem dX12_in_17 : decode cX12_in 17 = .ok (.iconst 0, 1) := by decide +kernel
theorem dX12_in_18 : decode cX12_in 18 = .ok (.ireturn, 1) := by decide +kernel
set_option maxRecDepth 20000 in
theorem ggX12_isWork_X12_in : GoodIn wsX12_isWork wsX12_in := goodIn_r _ [5] (by decide +kernel) (by decide +kernel)
set_option maxRecDepth 20000 in
theorem gX12_isWork_X12_in : GoodIn wsX12_isWork (va_wsS RX12 50 yX12_in wsX12_in) := goodIn_app (goodIn_of _ (by decide +kernel)) ggX12_isWork_X12_in
theorem dX12_isWork_0 : decode cX12_isWork 0 = .ok (.iload_n 1, 1) := by decide +kernel
theorem dX12_isWork_1 : decode cX12_isWork 1 = .ok (.i2l, 1) := by decide +kernel
theorem dX12_isWork_2 : decode cX12_isWork 2 = .ok (.lconst 0, 1) := by decide +kernel
theorem dX12_isWork_3 : decode cX12_isWork 3 = .ok (.aload_n 0, 1) := by decide +kernel
theorem dX12_isWork_4 : decode cX12_isWork 4 = .ok (.getfield 7, 3) := by decide +kernel
theorem dX12_isWork_7 : decode cX12_isWork 7 = .ok (.iconst 0, 1) := by decide +kernel
theorem dX12_isWork_8 : decode cX12_isWork 8 = .ok (.iaload, 1) := by decide +kernel
theorem dX12_isWork_9 : decode cX12_isWork 9 = .ok (.iconst 1, 1) := by decide +kernel
theorem dX12_isWork_10 : decode cX12_isWork 10 = .ok (.isub, 1) := by decide +kernel
theorem dX12_isWork_11 : decode cX12_isWork 11 = .ok (.i2l, 1) := by decide +kernel
theorem dX12_isWork_12 : decode cX12_isWork 12 = .ok (.invokestatic 50, 3) := by decide +kernel
theorem dX12_isWork_15 : decode cX12_isWork 15 = .ok (.ireturn, 1) := by decide +kernel
set_option maxRecDepth 20000 in
theorem ggX12_isCitation_X12_in : GoodIn wsX12_isCitation wsX12_in := goodIn_r _ [5] (by decide +kernel) (by decide +kernel)
set_option maxRecDepth 20000 in
theorem gX12_isCitation_X12_in : GoodIn wsX12_isCitation (va_wsS RX12 50 yX12_in wsX12_in) := goodIn_app (goodIn_of _ (by decide +kernel)) ggX12_isCitation_X12_in
theorem dX12_isCitation_0 : decode cX12_isCitation 0 = .ok (.iload_n 1, 1) := by decide +kernel
theorem dX12_isCitation_1 : decode cX12_isCitation 1 = .ok (.i2l, 1) := by decide +kernel
theorem dX12_isCitation_2 : decode cX12_isCitation 2 = .ok (.lconst 0, 1) := by decide +kernel
theorem dX12_isCitation_3 : decode cX12_isCitation 3 = .ok (.aload_n 0, 1) := by decide +kernel
theorem dX12_isCitation_4 : decode cX12_isCitation 4 = .ok (.getfield 7, 3) := by decide +kernel
theorem dX12_isCitation_7 : decode cX12_isCitation 7 = .ok (.bipush 70, 2) := by decide +kernel
theorem dX12_isCitation_9 : decode cX12_isCitation 9 = .ok (.iaload, 1) := by decide +kernel
theorem dX12_isCitation_10 : decode cX12_isCitation 10 = .ok (.iconst 1, 1) := by decide +kernel
theorem dX12_isCitation_11 : decode cX12_isCitation 11 = .ok (.isub, 1) := by decide +kernel
theorem dX12_isCitation_12 : decode cX12_isCitation 12 = .ok (.i2l, 1) := by decide +kernel
theorem dX12_isCitation_13 : decode cX12_isCitation 13 = .ok (.invokestatic 50, 3) := by decide +kernel
theorem dX12_isCitation_16 : decode cX12_isCitation 16 = .ok (.ireturn, 1) := by decide +kernel
theorem dX12_authors_0 : decode cX12_authors 0 = .ok (.aload_n 0, 1) := by decide +kernel
theorem dX12_authors_1 : decode cX12_authors 1 = .ok (.getfield 7, 3) := by decide +kernel
theorem dX12_authors_4 : decode cX12_authors 4 = .ok (.iconst 1, 1) := by decide +kernel
theorem dX12_authors_5 : decode cX12_authors 5 = .ok (.bipush 7, 2) := by decide +kernel
theorem dX12_authors_7 : decode cX12_authors 7 = .ok (.iload_n 1, 1) := by decide +kernel
theorem dX12_authors_8 : decode cX12_authors 8 = .ok (.imul, 1) := by decide +kernel
theorem dX12_authors_9 : decode cX12_authors 9 = .ok (.iadd, 1) := by decide +kernel
theorem dX12_authors_10 : decode cX12_authors 10 = .ok (.iaload, 1) := by decide +kernel
theorem dX12_authors_11 : decode cX12_authors 11 = .ok (.ireturn, 1) := by decide +kernel
theorem dX12_author_0 : decode cX12_author 0 = .ok (.aload_n 0, 1) := by decide +kernel
theorem dX12_author_1 : decode cX12_author 1 = .ok (.getfield 7, 3) := by decide +kernel
theorem dX12_author_4 : decode cX12_author 4 = .ok (.iconst 1, 1) := by decide +kernel
theorem dX12_author_5 : decode cX12_author 5 = .ok (.bipush 7, 2) := by decide +kernel
theorem dX12_author_7 : decode cX12_author 7 = .ok (.iload_n 1, 1) := by decide +kernel
theorem dX12_author_8 : decode cX12_author 8 = .ok (.imul, 1) := by decide +kernel
theorem dX12_author_9 : decode cX12_author 9 = .ok (.iadd, 1) := by decide +kernel
theorem dX12_author_10 : decode cX12_author 10 = .ok (.iconst 1, 1) := by decide +kernel
theorem dX12_author_11 : decode cX12_author 11 = .ok (.iadd, 1) := by decide +kernel
theorem dX12_author_12 : decode cX12_author 12 = .ok (.iload_n 2, 1) := by decide +kernel
theorem dX12_author_13 : decode cX12_author 13 = .ok (.iadd, 1) := by decide +kernel
theorem dX12_author_14 : decode cX12_author 14 = .ok (.iaload, 1) := by decide +kernel
theorem dX12_author_15 : decode cX12_author 15 = .ok (.ireturn, 1) := by decide +kernel
theorem dX12_year_0 : decode cX12_year 0 = .ok (.aload_n 0, 1) := by decide +kernel
theorem dX12_year_1 : decode cX12_year 1 = .ok (.getfield 7, 3) := by decide +kernel
theorem dX12_year_4 : decode cX12_year 4 = .ok (.iconst 1, 1) := by decide +kernel
theorem dX12_year_5 : decode cX12_year 5 = .ok (.bipush 7, 2) := by decide +kernel
theorem dX12_year_7 : decode cX12_year 7 = .ok (.iload_n 1, 1) := by decide +kernel
theorem dX12_year_8 : decode cX12_year 8 = .ok (.imul, 1) := by decide +kernel
theorem dX12_year_9 : decode cX12_year 9 = .ok (.iadd, 1) := by decide +kernel
theorem dX12_year_10 : decode cX12_year 10 = .ok (.iconst 5, 1) := by decide +kernel
theorem dX12_year_11 : decode cX12_year 11 = .ok (.iadd, 1) := by decide +kernel
theorem dX12_year_12 : decode cX12_year 12 = .ok (.iaload, 1) := by decide +kernel
theorem dX12_year_13 : decode cX12_year 13 = .ok (.ireturn, 1) := by decide +kernel
theorem dX12_title_0 : decode cX12_title 0 = .ok (.aload_n 0, 1) := by decide +kernel
theorem dX12_title_1 : decode cX12_title 1 = .ok (.getfield 7, 3) := by decide +kernel
theorem dX12_title_4 : decode cX12_title 4 = .ok (.iconst 1, 1) := by decide +kernel
theorem dX12_title_5 : decode cX12_title 5 = .ok (.bipush 7, 2) := by decide +kernel
theorem dX12_title_7 : decode cX12_title 7 = .ok (.iload_n 1, 1) := by decide +kernel
theorem dX12_title_8 : decode cX12_title 8 = .ok (.imul, 1) := by decide +kernel
theorem dX12_title_9 : decode cX12_title 9 = .ok (.iadd, 1) := by decide +kernel
theorem dX12_title_10 : decode cX12_title 10 = .ok (.bipush 6, 2) := by decide +kernel
theorem dX12_title_12 : decode cX12_title 12 = .ok (.iadd, 1) := by decide +kernel
theorem dX12_title_13 : decode cX12_title 13 = .ok (.iaload, 1) := by decide +kernel
theorem dX12_title_14 : decode cX12_title 14 = .ok (.ireturn, 1) := by decide +kernel
theorem dX12_cited_0 : decode cX12_cited 0 = .ok (.aload_n 0, 1) := by decide +kernel
theorem dX12_cited_1 : decode cX12_cited 1 = .ok (.getfield 7, 3) := by decide +kernel
theorem dX12_cited_4 : decode cX12_cited 4 = .ok (.bipush 71, 2) := by decide +kernel
theorem dX12_cited_6 : decode cX12_cited 6 = .ok (.bipush 6, 2) := by decide +kernel
theorem dX12_cited_8 : decode cX12_cited 8 = .ok (.iload_n 1, 1) := by decide +kernel
theorem dX12_cited_9 : decode cX12_cited 9 = .ok (.imul, 1) := by decide +kernel
theorem dX12_cited_10 : decode cX12_cited 10 = .ok (.iadd, 1) := by decide +kernel
theorem dX12_cited_11 : decode cX12_cited 11 = .ok (.iconst 1, 1) := by decide +kernel
theorem dX12_cited_12 : decode cX12_cited 12 = .ok (.iadd, 1) := by decide +kernel
theorem dX12_cited_13 : decode cX12_cited 13 = .ok (.iload_n 2, 1) := by decide +kernel
theorem dX12_cited_14 : decode cX12_cited 14 = .ok (.iadd, 1) := by decide +kernel
theorem dX12_cited_15 : decode cX12_cited 15 = .ok (.iaload, 1) := by decide +kernel
theorem dX12_cited_16 : decode cX12_cited 16 = .ok (.ireturn, 1) := by decide +kernel
theorem dX12_cites_0 : decode cX12_cites 0 = .ok (.aload_n 0, 1) := by decide +kernel
theorem dX12_cites_1 : decode cX12_cites 1 = .ok (.getfield 7, 3) := by decide +kernel
theorem dX12_cites_4 : decode cX12_cites 4 = .ok (.bipush 71, 2) := by decide +kernel
theorem dX12_cites_6 : decode cX12_cites 6 = .ok (.bipush 6, 2) := by decide +kernel
theorem dX12_cites_8 : decode cX12_cites 8 = .ok (.iload_n 1, 1) := by decide +kernel
theorem dX12_cites_9 : decode cX12_cites 9 = .ok (.imul, 1) := by decide +kernel
theorem dX12_cites_10 : decode cX12_cites 10 = .ok (.iadd, 1) := by decide +kernel
theorem dX12_cites_11 : decode cX12_cites 11 = .ok (.iaload, 1) := by decide +kernel
theorem dX12_cites_12 : decode cX12_cites 12 = .ok (.ireturn, 1) := by decide +kernel
theorem dX12_keeps_0 : decode cX12_keeps 0 = .ok (.aload_n 0, 1) := by decide +kernel
theorem dX12_keeps_1 : decode cX12_keeps 1 = .ok (.getfield 54, 3) := by decide +kernel
theorem dX12_keeps_4 : decode cX12_keeps 4 = .ok (.bipush 8, 2) := by decide +kernel
theorem dX12_keeps_6 : decode cX12_keeps 6 = .ok (.if_icmp .ne 44, 3) := by decide +kernel
theorem dX12_keeps_9 : decode cX12_keeps 9 = .ok (.iconst 0, 1) := by decide +kernel
theorem dX12_keeps_10 : decode cX12_keeps 10 = .ok (.istore_n 1, 1) := by decide +kernel
theorem dX12_keeps_11 : decode cX12_keeps 11 = .ok (.iload_n 1, 1) := by decide +kernel
theorem dX12_keeps_12 : decode cX12_keeps 12 = .ok (.sipush 917, 3) := by decide +kernel
theorem dX12_keeps_15 : decode cX12_keeps 15 = .ok (.if_icmp .ge 25, 3) := by decide +kernel
theorem dX12_keeps_18 : decode cX12_keeps 18 = .ok (.aload_n 0, 1) := by decide +kernel
theorem dX12_keeps_19 : decode cX12_keeps 19 = .ok (.getfield 13, 3) := by decide +kernel
theorem dX12_keeps_22 : decode cX12_keeps 22 = .ok (.iload_n 1, 1) := by decide +kernel
theorem dX12_keeps_23 : decode cX12_keeps 23 = .ok (.aload_n 0, 1) := by decide +kernel
theorem dX12_keeps_24 : decode cX12_keeps 24 = .ok (.getfield 13, 3) := by decide +kernel
theorem dX12_keeps_27 : decode cX12_keeps 27 = .ok (.sipush 131, 3) := by decide +kernel
theorem dX12_keeps_30 : decode cX12_keeps 30 = .ok (.iload_n 1, 1) := by decide +kernel
theorem dX12_keeps_31 : decode cX12_keeps 31 = .ok (.iadd, 1) := by decide +kernel
theorem dX12_keeps_32 : decode cX12_keeps 32 = .ok (.iaload, 1) := by decide +kernel
theorem dX12_keeps_33 : decode cX12_keeps 33 = .ok (.iastore, 1) := by decide +kernel
theorem dX12_keeps_34 : decode cX12_keeps 34 = .ok (.iinc 1 1, 3) := by decide +kernel
theorem dX12_keeps_37 : decode cX12_keeps 37 = .ok (.goto (-26), 3) := by decide +kernel
theorem dX12_keeps_40 : decode cX12_keeps 40 = .ok (.aload_n 0, 1) := by decide +kernel
theorem dX12_keeps_41 : decode cX12_keeps 41 = .ok (.dup, 1) := by decide +kernel
theorem dX12_keeps_42 : decode cX12_keeps 42 = .ok (.getfield 54, 3) := by decide +kernel
theorem dX12_keeps_45 : decode cX12_keeps 45 = .ok (.iconst 1, 1) := by decide +kernel
theorem dX12_keeps_46 : decode cX12_keeps 46 = .ok (.isub, 1) := by decide +kernel
theorem dX12_keeps_47 : decode cX12_keeps 47 = .ok (.putfield 54, 3) := by decide +kernel
theorem dX12_keeps_50 : decode cX12_keeps 50 = .ok (.iconst 0, 1) := by decide +kernel
theorem dX12_keeps_51 : decode cX12_keeps 51 = .ok (.istore_n 1, 1) := by decide +kernel
theorem dX12_keeps_52 : decode cX12_keeps 52 = .ok (.iload_n 1, 1) := by decide +kernel
theorem dX12_keeps_53 : decode cX12_keeps 53 = .ok (.sipush 131, 3) := by decide +kernel
theorem dX12_keeps_56 : decode cX12_keeps 56 = .ok (.if_icmp .ge 30, 3) := by decide +kernel
theorem dX12_keeps_59 : decode cX12_keeps 59 = .ok (.aload_n 0, 1) := by decide +kernel
theorem dX12_keeps_60 : decode cX12_keeps 60 = .ok (.getfield 13, 3) := by decide +kernel
theorem dX12_keeps_63 : decode cX12_keeps 63 = .ok (.sipush 131, 3) := by decide +kernel
theorem dX12_keeps_66 : decode cX12_keeps 66 = .ok (.aload_n 0, 1) := by decide +kernel
theorem dX12_keeps_67 : decode cX12_keeps 67 = .ok (.getfield 54, 3) := by decide +kernel
theorem dX12_keeps_70 : decode cX12_keeps 70 = .ok (.imul, 1) := by decide +kernel
theorem dX12_keeps_71 : decode cX12_keeps 71 = .ok (.iload_n 1, 1) := by decide +kernel
theorem dX12_keeps_72 : decode cX12_keeps 72 = .ok (.iadd, 1) := by decide +kernel
theorem dX12_keeps_73 : decode cX12_keeps 73 = .ok (.aload_n 0, 1) := by decide +kernel
theorem dX12_keeps_74 : decode cX12_keeps 74 = .ok (.getfield 7, 3) := by decide +kernel
theorem dX12_keeps_77 : decode cX12_keeps 77 = .ok (.iload_n 1, 1) := by decide +kernel
theorem dX12_keeps_78 : decode cX12_keeps 78 = .ok (.iaload, 1) := by decide +kernel
theorem dX12_keeps_79 : decode cX12_keeps 79 = .ok (.iastore, 1) := by decide +kernel
theorem dX12_keeps_80 : decode cX12_keeps 80 = .ok (.iinc 1 1, 3) := by decide +kernel
theorem dX12_keeps_83 : decode cX12_keeps 83 = .ok (.goto (-31), 3) := by decide +kernel
theorem dX12_keeps_86 : decode cX12_keeps 86 = .ok (.aload_n 0, 1) := by decide +kernel
theorem dX12_keeps_87 : decode cX12_keeps 87 = .ok (.dup, 1) := by decide +kernel
theorem dX12_keeps_88 : decode cX12_keeps 88 = .ok (.getfield 54, 3) := by decide +kernel
theorem dX12_keeps_91 : decode cX12_keeps 91 = .ok (.iconst 1, 1) := by decide +kernel
theorem dX12_keeps_92 : decode cX12_keeps 92 = .ok (.iadd, 1) := by decide +kernel
theorem dX12_keeps_93 : decode cX12_keeps 93 = .ok (.putfield 54, 3) := by decide +kernel
theorem dX12_keeps_96 : decode cX12_keeps 96 = .ok (.return_, 1) := by decide +kernel
theorem dX12_undo_0 : decode cX12_undo 0 = .ok (.aload_n 0, 1) := by decide +kernel
theorem dX12_undo_1 : decode cX12_undo 1 = .ok (.getfield 54, 3) := by decide +kernel
theorem dX12_undo_4 : decode cX12_undo 4 = .ok (.ifCond .ne 6, 3) := by decide +kernel
theorem dX12_undo_7 : decode cX12_undo 7 = .ok (.bipush (-2), 2) := by decide +kernel
theorem dX12_undo_9 : decode cX12_undo 9 = .ok (.ireturn, 1) := by decide +kernel
theorem dX12_undo_10 : decode cX12_undo 10 = .ok (.aload_n 0, 1) := by decide +kernel
theorem dX12_undo_11 : decode cX12_undo 11 = .ok (.dup, 1) := by decide +kernel
theorem dX12_undo_12 : decode cX12_undo 12 = .ok (.getfield 54, 3) := by decide +kernel
theorem dX12_undo_15 : decode cX12_undo 15 = .ok (.iconst 1, 1) := by decide +kernel
theorem dX12_undo_16 : decode cX12_undo 16 = .ok (.isub, 1) := by decide +kernel
theorem dX12_undo_17 : decode cX12_undo 17 = .ok (.putfield 54, 3) := by decide +kernel
theorem dX12_undo_20 : decode cX12_undo 20 = .ok (.iconst 0, 1) := by decide +kernel
theorem dX12_undo_21 : decode cX12_undo 21 = .ok (.istore_n 1, 1) := by decide +kernel
theorem dX12_undo_22 : decode cX12_undo 22 = .ok (.iload_n 1, 1) := by decide +kernel
theorem dX12_undo_23 : decode cX12_undo 23 = .ok (.sipush 131, 3) := by decide +kernel
theorem dX12_undo_26 : decode cX12_undo 26 = .ok (.if_icmp .ge 30, 3) := by decide +kernel
theorem dX12_undo_29 : decode cX12_undo 29 = .ok (.aload_n 0, 1) := by decide +kernel
theorem dX12_undo_30 : decode cX12_undo 30 = .ok (.getfield 7, 3) := by decide +kernel
theorem dX12_undo_33 : decode cX12_undo 33 = .ok (.iload_n 1, 1) := by decide +kernel
theorem dX12_undo_34 : decode cX12_undo 34 = .ok (.aload_n 0, 1) := by decide +kernel
theorem dX12_undo_35 : decode cX12_undo 35 = .ok (.getfield 13, 3) := by decide +kernel
theorem dX12_undo_38 : decode cX12_undo 38 = .ok (.sipush 131, 3) := by decide +kernel
theorem dX12_undo_41 : decode cX12_undo 41 = .ok (.aload_n 0, 1) := by decide +kernel
theorem dX12_undo_42 : decode cX12_undo 42 = .ok (.getfield 54, 3) := by decide +kernel
theorem dX12_undo_45 : decode cX12_undo 45 = .ok (.imul, 1) := by decide +kernel
theorem dX12_undo_46 : decode cX12_undo 46 = .ok (.iload_n 1, 1) := by decide +kernel
theorem dX12_undo_47 : decode cX12_undo 47 = .ok (.iadd, 1) := by decide +kernel
theorem dX12_undo_48 : decode cX12_undo 48 = .ok (.iaload, 1) := by decide +kernel
theorem dX12_undo_49 : decode cX12_undo 49 = .ok (.iastore, 1) := by decide +kernel
theorem dX12_undo_50 : decode cX12_undo 50 = .ok (.iinc 1 1, 3) := by decide +kernel
theorem dX12_undo_53 : decode cX12_undo 53 = .ok (.goto (-31), 3) := by decide +kernel
theorem dX12_undo_56 : decode cX12_undo 56 = .ok (.aload_n 0, 1) := by decide +kernel
theorem dX12_undo_57 : decode cX12_undo 57 = .ok (.getfield 54, 3) := by decide +kernel
theorem dX12_undo_60 : decode cX12_undo 60 = .ok (.ireturn, 1) := by decide +kernel
set_option maxRecDepth 20000 in
theorem ggX12_appendCharacter_X12_in : GoodIn wsX12_appendCharacter wsX12_in := goodIn_r _ [7] (by decide +kernel) (by decide +kernel)
set_option maxRecDepth 20000 in
theorem gX12_appendCharacter_X12_in : GoodIn wsX12_appendCharacter (va_wsS RX12 50 yX12_in wsX12_in) := goodIn_app (goodIn_of _ (by decide +kernel)) ggX12_appendCharacter_X12_in
theorem dX12_appendCharacter_0 : decode cX12_appendCharacter 0 = .ok (.iload_n 1, 1) := by decide +kernel
theorem dX12_appendCharacter_1 : decode cX12_appendCharacter 1 = .ok (.i2l, 1) := by decide +kernel
theorem dX12_appendCharacter_2 : decode cX12_appendCharacter 2 = .ok (.lconst 0, 1) := by decide +kernel
theorem dX12_appendCharacter_3 : decode cX12_appendCharacter 3 = .ok (.ldc2_w 58, 3) := by decide +kernel
theorem dX12_appendCharacter_6 : decode cX12_appendCharacter 6 = .ok (.invokestatic 50, 3) := by decide +kernel
theorem dX12_appendCharacter_9 : decode cX12_appendCharacter 9 = .ok (.ifCond .ne 5, 3) := by decide +kernel
theorem dX12_appendCharacter_12 : decode cX12_appendCharacter 12 = .ok (.iconst (-1), 1) := by decide +kernel
theorem dX12_appendCharacter_13 : decode cX12_appendCharacter 13 = .ok (.ireturn, 1) := by decide +kernel
theorem dX12_appendCharacter_14 : decode cX12_appendCharacter 14 = .ok (.aload_n 0, 1) := by decide +kernel
theorem dX12_appendCharacter_15 : decode cX12_appendCharacter 15 = .ok (.getfield 60, 3) := by decide +kernel
theorem dX12_appendCharacter_18 : decode cX12_appendCharacter 18 = .ok (.sipush 150, 3) := by decide +kernel
theorem dX12_appendCharacter_21 : decode cX12_appendCharacter 21 = .ok (.if_icmp .ne 6, 3) := by decide +kernel
theorem dX12_appendCharacter_24 : decode cX12_appendCharacter 24 = .ok (.bipush (-3), 2) := by decide +kernel
theorem dX12_appendCharacter_26 : decode cX12_appendCharacter 26 = .ok (.ireturn, 1) := by decide +kernel
theorem dX12_appendCharacter_27 : decode cX12_appendCharacter 27 = .ok (.aload_n 0, 1) := by decide +kernel
theorem dX12_appendCharacter_28 : decode cX12_appendCharacter 28 = .ok (.getfield 16, 3) := by decide +kernel
theorem dX12_appendCharacter_31 : decode cX12_appendCharacter 31 = .ok (.aload_n 0, 1) := by decide +kernel
theorem dX12_appendCharacter_32 : decode cX12_appendCharacter 32 = .ok (.getfield 60, 3) := by decide +kernel
theorem dX12_appendCharacter_35 : decode cX12_appendCharacter 35 = .ok (.iload_n 1, 1) := by decide +kernel
theorem dX12_appendCharacter_36 : decode cX12_appendCharacter 36 = .ok (.iastore, 1) := by decide +kernel
theorem dX12_appendCharacter_37 : decode cX12_appendCharacter 37 = .ok (.aload_n 0, 1) := by decide +kernel
theorem dX12_appendCharacter_38 : decode cX12_appendCharacter 38 = .ok (.dup, 1) := by decide +kernel
theorem dX12_appendCharacter_39 : decode cX12_appendCharacter 39 = .ok (.getfield 60, 3) := by decide +kernel
theorem dX12_appendCharacter_42 : decode cX12_appendCharacter 42 = .ok (.iconst 1, 1) := by decide +kernel
theorem dX12_appendCharacter_43 : decode cX12_appendCharacter 43 = .ok (.iadd, 1) := by decide +kernel
theorem dX12_appendCharacter_44 : decode cX12_appendCharacter 44 = .ok (.putfield 60, 3) := by decide +kernel
theorem dX12_appendCharacter_47 : decode cX12_appendCharacter 47 = .ok (.aload_n 0, 1) := by decide +kernel
theorem dX12_appendCharacter_48 : decode cX12_appendCharacter 48 = .ok (.getfield 60, 3) := by decide +kernel
theorem dX12_appendCharacter_51 : decode cX12_appendCharacter 51 = .ok (.ireturn, 1) := by decide +kernel
theorem dX12_clearText_0 : decode cX12_clearText 0 = .ok (.aload_n 0, 1) := by decide +kernel
theorem dX12_clearText_1 : decode cX12_clearText 1 = .ok (.getfield 60, 3) := by decide +kernel
theorem dX12_clearText_4 : decode cX12_clearText 4 = .ok (.istore_n 1, 1) := by decide +kernel
theorem dX12_clearText_5 : decode cX12_clearText 5 = .ok (.aload_n 0, 1) := by decide +kernel
theorem dX12_clearText_6 : decode cX12_clearText 6 = .ok (.iconst 0, 1) := by decide +kernel
theorem dX12_clearText_7 : decode cX12_clearText 7 = .ok (.putfield 60, 3) := by decide +kernel
theorem dX12_clearText_10 : decode cX12_clearText 10 = .ok (.iload_n 1, 1) := by decide +kernel
theorem dX12_clearText_11 : decode cX12_clearText 11 = .ok (.ireturn, 1) := by decide +kernel
theorem dX12_letterAt_0 : decode cX12_letterAt 0 = .ok (.iload_n 1, 1) := by decide +kernel
theorem dX12_letterAt_1 : decode cX12_letterAt 1 = .ok (.aload_n 0, 1) := by decide +kernel
theorem dX12_letterAt_2 : decode cX12_letterAt 2 = .ok (.getfield 60, 3) := by decide +kernel
theorem dX12_letterAt_5 : decode cX12_letterAt 5 = .ok (.if_icmp .ge 12, 3) := by decide +kernel
theorem dX12_letterAt_8 : decode cX12_letterAt 8 = .ok (.aload_n 0, 1) := by decide +kernel
theorem dX12_letterAt_9 : decode cX12_letterAt 9 = .ok (.getfield 16, 3) := by decide +kernel
theorem dX12_letterAt_12 : decode cX12_letterAt 12 = .ok (.iload_n 1, 1) := by decide +kernel
theorem dX12_letterAt_13 : decode cX12_letterAt 13 = .ok (.iaload, 1) := by decide +kernel
theorem dX12_letterAt_14 : decode cX12_letterAt 14 = .ok (.goto 4, 3) := by decide +kernel
theorem dX12_letterAt_17 : decode cX12_letterAt 17 = .ok (.iconst (-1), 1) := by decide +kernel
theorem dX12_letterAt_18 : decode cX12_letterAt 18 = .ok (.ireturn, 1) := by decide +kernel
set_option maxRecDepth 20000 in
theorem ggX12_isLow_X12_letterAt : GoodIn wsX12_isLow wsX12_letterAt := goodIn_r _ [7, 8, 9, 13, 14, 15, 16, 17, 18, 19, 20, 21, 22, 23, 24, 25, 26, 27, 28, 29, 30, 31] (by decide +kernel) (by decide +kernel)
set_option maxRecDepth 20000 in
theorem gX12_isLow_X12_letterAt : GoodIn wsX12_isLow (wsV RX12 63 RX12 yX12_letterAt wsX12_letterAt) := goodIn_app (goodIn_of _ (by decide +kernel)) ggX12_isLow_X12_letterAt
set_option maxRecDepth 20000 in
theorem ggX12_isLow_X12_in : GoodIn wsX12_isLow wsX12_in := goodIn_r _ [12] (by decide +kernel) (by decide +kernel)
set_option maxRecDepth 20000 in
theorem gX12_isLow_X12_in : GoodIn wsX12_isLow (va_wsS RX12 50 yX12_in wsX12_in) := goodIn_app (goodIn_of _ (by decide +kernel)) ggX12_isLow_X12_in
theorem dX12_isLow_0 : decode cX12_isLow 0 = .ok (.aload_n 0, 1) := by decide +kernel
theorem dX12_isLow_1 : decode cX12_isLow 1 = .ok (.iload_n 1, 1) := by decide +kernel
theorem dX12_isLow_2 : decode cX12_isLow 2 = .ok (.invokevirtual 63, 3) := by decide +kernel
theorem dX12_isLow_5 : decode cX12_isLow 5 = .ok (.i2l, 1) := by decide +kernel
theorem dX12_isLow_6 : decode cX12_isLow 6 = .ok (.ldc2_w 67, 3) := by decide +kernel
theorem dX12_isLow_9 : decode cX12_isLow 9 = .ok (.ldc2_w 69, 3) := by decide +kernel
theorem dX12_isLow_12 : decode cX12_isLow 12 = .ok (.invokestatic 50, 3) := by decide +kernel
theorem dX12_isLow_15 : decode cX12_isLow 15 = .ok (.ireturn, 1) := by decide +kernel
set_option maxRecDepth 20000 in
theorem ggX12_isFigure_X12_letterAt : GoodIn wsX12_isFigure wsX12_letterAt := goodIn_r _ [7, 8, 9, 13, 14, 15, 16, 17, 18, 19, 20, 21, 22, 23, 24, 25, 26, 27, 28, 29, 30, 31] (by decide +kernel) (by decide +kernel)
set_option maxRecDepth 20000 in
theorem gX12_isFigure_X12_letterAt : GoodIn wsX12_isFigure (wsV RX12 63 RX12 yX12_letterAt wsX12_letterAt) := goodIn_app (goodIn_of _ (by decide +kernel)) ggX12_isFigure_X12_letterAt
set_option maxRecDepth 20000 in
theorem ggX12_isFigure_X12_in : GoodIn wsX12_isFigure wsX12_in := goodIn_r _ [12] (by decide +kernel) (by decide +kernel)
set_option maxRecDepth 20000 in
theorem gX12_isFigure_X12_in : GoodIn wsX12_isFigure (va_wsS RX12 50 yX12_in wsX12_in) := goodIn_app (goodIn_of _ (by decide +kernel)) ggX12_isFigure_X12_in
theorem dX12_isFigure_0 : decode cX12_isFigure 0 = .ok (.aload_n 0, 1) := by decide +kernel
theorem dX12_isFigure_1 : decode cX12_isFigure 1 = .ok (.iload_n 1, 1) := by decide +kernel
theorem dX12_isFigure_2 : decode cX12_isFigure 2 = .ok (.invokevirtual 63, 3) := by decide +kernel
theorem dX12_isFigure_5 : decode cX12_isFigure 5 = .ok (.i2l, 1) := by decide +kernel
theorem dX12_isFigure_6 : decode cX12_isFigure 6 = .ok (.ldc2_w 71, 3) := by decide +kernel
theorem dX12_isFigure_9 : decode cX12_isFigure 9 = .ok (.ldc2_w 73, 3) := by decide +kernel
theorem dX12_isFigure_12 : decode cX12_isFigure 12 = .ok (.invokestatic 50, 3) := by decide +kernel
theorem dX12_isFigure_15 : decode cX12_isFigure 15 = .ok (.ireturn, 1) := by decide +kernel
set_option maxRecDepth 20000 in
theorem ggX12_nextLexeme_X12_letterAt : GoodIn wsX12_nextLexeme wsX12_letterAt := goodIn_r _ [11, 3, 12, 28, 29, 30, 31, 32, 33, 34, 35, 36, 37, 38, 39, 40, 41, 42, 43, 44, 45, 46] (by decide +kernel) (by decide +kernel)
set_option maxRecDepth 20000 in
theorem gX12_nextLexeme_X12_letterAt : GoodIn wsX12_nextLexeme (wsV RX12 63 RX12 yX12_letterAt wsX12_letterAt) := goodIn_app (goodIn_of _ (by decide +kernel)) ggX12_nextLexeme_X12_letterAt
set_option maxRecDepth 20000 in
theorem ggX12_nextLexeme_X12_isLow : GoodIn wsX12_nextLexeme wsX12_isLow := goodIn_r _ [16, 17, 18, 7, 8, 9, 10, 11, 3, 12, 19, 20, 21, 28, 29, 30, 31, 32, 33, 34, 35, 36, 37, 38, 39, 40, 41, 42, 43, 44, 45, 46] (by decide +kernel) (by decide +kernel)
set_option maxRecDepth 20000 in
theorem gX12_nextLexeme_X12_isLow : GoodIn wsX12_nextLexeme (wsV RX12 84 RX12 yX12_isLow wsX12_isLow) := goodIn_app (goodIn_of _ (by decide +kernel)) ggX12_nextLexeme_X12_isLow
set_option maxRecDepth 20000 in
theorem ggX12_nextLexeme_X12_isFigure : GoodIn wsX12_nextLexeme wsX12_isFigure := goodIn_r _ [25, 26, 27, 7, 8, 9, 10, 11, 3, 12, 19, 20, 21, 28, 29, 30, 31, 32, 33, 34, 35, 36, 37, 38, 39, 40, 41, 42, 43, 44, 45, 46] (by decide +kernel) (by decide +kernel)
set_option maxRecDepth 20000 in
theorem gX12_nextLexeme_X12_isFigure : GoodIn wsX12_nextLexeme (wsV RX12 88 RX12 yX12_isFigure wsX12_isFigure) := goodIn_app (goodIn_of _ (by decide +kernel)) ggX12_nextLexeme_X12_isFigure
set_option maxRecDepth 20000 in
theorem ggX12_nextLexeme_X12_in : GoodIn wsX12_nextLexeme wsX12_in := goodIn_r _ [21] (by decide +kernel) (by decide +kernel)
set_option maxRecDepth 20000 in
theorem gX12_nextLexeme_X12_in : GoodIn wsX12_nextLexeme (va_wsS RX12 50 yX12_in wsX12_in) := goodIn_app (goodIn_of _ (by decide +kernel)) ggX12_nextLexeme_X12_in
theorem dX12_nextLexeme_0 : decode cX12_nextLexeme 0 = .ok (.aload_n 0, 1) := by decide +kernel
theorem dX12_nextLexeme_1 : decode cX12_nextLexeme 1 = .ok (.dup, 1) := by decide +kernel
theorem dX12_nextLexeme_2 : decode cX12_nextLexeme 2 = .ok (.getfield 75, 3) := by decide +kernel
theorem dX12_nextLexeme_5 : decode cX12_nextLexeme 5 = .ok (.aload_n 0, 1) := by decide +kernel
theorem dX12_nextLexeme_6 : decode cX12_nextLexeme 6 = .ok (.getfield 78, 3) := by decide +kernel
theorem dX12_nextLexeme_9 : decode cX12_nextLexeme 9 = .ok (.iadd, 1) := by decide +kernel
theorem dX12_nextLexeme_10 : decode cX12_nextLexeme 10 = .ok (.putfield 75, 3) := by decide +kernel
theorem dX12_nextLexeme_13 : decode cX12_nextLexeme 13 = .ok (.aload_n 0, 1) := by decide +kernel
theorem dX12_nextLexeme_14 : decode cX12_nextLexeme 14 = .ok (.aload_n 0, 1) := by decide +kernel
theorem dX12_nextLexeme_15 : decode cX12_nextLexeme 15 = .ok (.getfield 75, 3) := by decide +kernel
theorem dX12_nextLexeme_18 : decode cX12_nextLexeme 18 = .ok (.invokevirtual 63, 3) := by decide +kernel
theorem dX12_nextLexeme_21 : decode cX12_nextLexeme 21 = .ok (.bipush 32, 2) := by decide +kernel
theorem dX12_nextLexeme_23 : decode cX12_nextLexeme 23 = .ok (.if_icmp .ne 16, 3) := by decide +kernel
theorem dX12_nextLexeme_26 : decode cX12_nextLexeme 26 = .ok (.aload_n 0, 1) := by decide +kernel
theorem dX12_nextLexeme_27 : decode cX12_nextLexeme 27 = .ok (.dup, 1) := by decide +kernel
theorem dX12_nextLexeme_28 : decode cX12_nextLexeme 28 = .ok (.getfield 75, 3) := by decide +kernel
theorem dX12_nextLexeme_31 : decode cX12_nextLexeme 31 = .ok (.iconst 1, 1) := by decide +kernel
theorem dX12_nextLexeme_32 : decode cX12_nextLexeme 32 = .ok (.iadd, 1) := by decide +kernel
theorem dX12_nextLexeme_33 : decode cX12_nextLexeme 33 = .ok (.putfield 75, 3) := by decide +kernel
theorem dX12_nextLexeme_36 : decode cX12_nextLexeme 36 = .ok (.goto (-23), 3) := by decide +kernel
theorem dX12_nextLexeme_39 : decode cX12_nextLexeme 39 = .ok (.aload_n 0, 1) := by decide +kernel
theorem dX12_nextLexeme_40 : decode cX12_nextLexeme 40 = .ok (.aload_n 0, 1) := by decide +kernel
theorem dX12_nextLexeme_41 : decode cX12_nextLexeme 41 = .ok (.getfield 75, 3) := by decide +kernel
theorem dX12_nextLexeme_44 : decode cX12_nextLexeme 44 = .ok (.aload_n 0, 1) := by decide +kernel
theorem dX12_nextLexeme_45 : decode cX12_nextLexeme 45 = .ok (.getfield 60, 3) := by decide +kernel
theorem dX12_nextLexeme_48 : decode cX12_nextLexeme 48 = .ok (.if_icmp .ge 7, 3) := by decide +kernel
theorem dX12_nextLexeme_51 : decode cX12_nextLexeme 51 = .ok (.iconst 1, 1) := by decide +kernel
theorem dX12_nextLexeme_52 : decode cX12_nextLexeme 52 = .ok (.goto 4, 3) := by decide +kernel
theorem dX12_nextLexeme_55 : decode cX12_nextLexeme 55 = .ok (.iconst 0, 1) := by decide +kernel
theorem dX12_nextLexeme_56 : decode cX12_nextLexeme 56 = .ok (.putfield 78, 3) := by decide +kernel
theorem dX12_nextLexeme_59 : decode cX12_nextLexeme 59 = .ok (.aload_n 0, 1) := by decide +kernel
theorem dX12_nextLexeme_60 : decode cX12_nextLexeme 60 = .ok (.iconst 4, 1) := by decide +kernel
theorem dX12_nextLexeme_61 : decode cX12_nextLexeme 61 = .ok (.putfield 81, 3) := by decide +kernel
theorem dX12_nextLexeme_64 : decode cX12_nextLexeme 64 = .ok (.aload_n 0, 1) := by decide +kernel
theorem dX12_nextLexeme_65 : decode cX12_nextLexeme 65 = .ok (.aload_n 0, 1) := by decide +kernel
theorem dX12_nextLexeme_66 : decode cX12_nextLexeme 66 = .ok (.getfield 75, 3) := by decide +kernel
theorem dX12_nextLexeme_69 : decode cX12_nextLexeme 69 = .ok (.invokevirtual 84, 3) := by decide +kernel
theorem dX12_nextLexeme_72 : decode cX12_nextLexeme 72 = .ok (.ifCond .eq 37, 3) := by decide +kernel
theorem dX12_nextLexeme_75 : decode cX12_nextLexeme 75 = .ok (.aload_n 0, 1) := by decide +kernel
theorem dX12_nextLexeme_76 : decode cX12_nextLexeme 76 = .ok (.iconst 1, 1) := by decide +kernel
theorem dX12_nextLexeme_77 : decode cX12_nextLexeme 77 = .ok (.putfield 81, 3) := by decide +kernel
theorem dX12_nextLexeme_80 : decode cX12_nextLexeme 80 = .ok (.aload_n 0, 1) := by decide +kernel
theorem dX12_nextLexeme_81 : decode cX12_nextLexeme 81 = .ok (.aload_n 0, 1) := by decide +kernel
theorem dX12_nextLexeme_82 : decode cX12_nextLexeme 82 = .ok (.getfield 75, 3) := by decide +kernel
theorem dX12_nextLexeme_85 : decode cX12_nextLexeme 85 = .ok (.aload_n 0, 1) := by decide +kernel
theorem dX12_nextLexeme_86 : decode cX12_nextLexeme 86 = .ok (.getfield 78, 3) := by decide +kernel
theorem dX12_nextLexeme_89 : decode cX12_nextLexeme 89 = .ok (.iadd, 1) := by decide +kernel
theorem dX12_nextLexeme_90 : decode cX12_nextLexeme 90 = .ok (.invokevirtual 84, 3) := by decide +kernel
theorem dX12_nextLexeme_93 : decode cX12_nextLexeme 93 = .ok (.ifCond .eq 105, 3) := by decide +kernel
theorem dX12_nextLexeme_96 : decode cX12_nextLexeme 96 = .ok (.aload_n 0, 1) := by decide +kernel
theorem dX12_nextLexeme_97 : decode cX12_nextLexeme 97 = .ok (.dup, 1) := by decide +kernel
theorem dX12_nextLexeme_98 : decode cX12_nextLexeme 98 = .ok (.getfield 78, 3) := by decide +kernel
theorem dX12_nextLexeme_101 : decode cX12_nextLexeme 101 = .ok (.iconst 1, 1) := by decide +kernel
theorem dX12_nextLexeme_102 : decode cX12_nextLexeme 102 = .ok (.iadd, 1) := by decide +kernel
theorem dX12_nextLexeme_103 : decode cX12_nextLexeme 103 = .ok (.putfield 78, 3) := by decide +kernel
theorem dX12_nextLexeme_106 : decode cX12_nextLexeme 106 = .ok (.goto (-26), 3) := by decide +kernel
theorem dX12_nextLexeme_109 : decode cX12_nextLexeme 109 = .ok (.aload_n 0, 1) := by decide +kernel
theorem dX12_nextLexeme_110 : decode cX12_nextLexeme 110 = .ok (.aload_n 0, 1) := by decide +kernel
theorem dX12_nextLexeme_111 : decode cX12_nextLexeme 111 = .ok (.getfield 75, 3) := by decide +kernel
theorem dX12_nextLexeme_114 : decode cX12_nextLexeme 114 = .ok (.invokevirtual 88, 3) := by decide +kernel
theorem dX12_nextLexeme_117 : decode cX12_nextLexeme 117 = .ok (.ifCond .eq 37, 3) := by decide +kernel
theorem dX12_nextLexeme_120 : decode cX12_nextLexeme 120 = .ok (.aload_n 0, 1) := by decide +kernel
theorem dX12_nextLexeme_121 : decode cX12_nextLexeme 121 = .ok (.iconst 3, 1) := by decide +kernel
theorem dX12_nextLexeme_122 : decode cX12_nextLexeme 122 = .ok (.putfield 81, 3) := by decide +kernel
theorem dX12_nextLexeme_125 : decode cX12_nextLexeme 125 = .ok (.aload_n 0, 1) := by decide +kernel
theorem dX12_nextLexeme_126 : decode cX12_nextLexeme 126 = .ok (.aload_n 0, 1) := by decide +kernel
theorem dX12_nextLexeme_127 : decode cX12_nextLexeme 127 = .ok (.getfield 75, 3) := by decide +kernel
theorem dX12_nextLexeme_130 : decode cX12_nextLexeme 130 = .ok (.aload_n 0, 1) := by decide +kernel
theorem dX12_nextLexeme_131 : decode cX12_nextLexeme 131 = .ok (.getfield 78, 3) := by decide +kernel
theorem dX12_nextLexeme_134 : decode cX12_nextLexeme 134 = .ok (.iadd, 1) := by decide +kernel
theorem dX12_nextLexeme_135 : decode cX12_nextLexeme 135 = .ok (.invokevirtual 88, 3) := by decide +kernel
theorem dX12_nextLexeme_138 : decode cX12_nextLexeme 138 = .ok (.ifCond .eq 60, 3) := by decide +kernel
theorem dX12_nextLexeme_141 : decode cX12_nextLexeme 141 = .ok (.aload_n 0, 1) := by decide +kernel
theorem dX12_nextLexeme_142 : decode cX12_nextLexeme 142 = .ok (.dup, 1) := by decide +kernel
theorem dX12_nextLexeme_143 : decode cX12_nextLexeme 143 = .ok (.getfield 78, 3) := by decide +kernel
theorem dX12_nextLexeme_146 : decode cX12_nextLexeme 146 = .ok (.iconst 1, 1) := by decide +kernel
theorem dX12_nextLexeme_147 : decode cX12_nextLexeme 147 = .ok (.iadd, 1) := by decide +kernel
theorem dX12_nextLexeme_148 : decode cX12_nextLexeme 148 = .ok (.putfield 78, 3) := by decide +kernel
theorem dX12_nextLexeme_151 : decode cX12_nextLexeme 151 = .ok (.goto (-26), 3) := by decide +kernel
theorem dX12_nextLexeme_154 : decode cX12_nextLexeme 154 = .ok (.aload_n 0, 1) := by decide +kernel
theorem dX12_nextLexeme_155 : decode cX12_nextLexeme 155 = .ok (.aload_n 0, 1) := by decide +kernel
theorem dX12_nextLexeme_156 : decode cX12_nextLexeme 156 = .ok (.getfield 75, 3) := by decide +kernel
theorem dX12_nextLexeme_159 : decode cX12_nextLexeme 159 = .ok (.invokevirtual 63, 3) := by decide +kernel
theorem dX12_nextLexeme_162 : decode cX12_nextLexeme 162 = .ok (.i2l, 1) := by decide +kernel
theorem dX12_nextLexeme_163 : decode cX12_nextLexeme 163 = .ok (.ldc2_w 91, 3) := by decide +kernel
theorem dX12_nextLexeme_166 : decode cX12_nextLexeme 166 = .ok (.ldc2_w 93, 3) := by decide +kernel
theorem dX12_nextLexeme_169 : decode cX12_nextLexeme 169 = .ok (.invokestatic 50, 3) := by decide +kernel
theorem dX12_nextLexeme_172 : decode cX12_nextLexeme 172 = .ok (.ifCond .eq 26, 3) := by decide +kernel
theorem dX12_nextLexeme_175 : decode cX12_nextLexeme 175 = .ok (.aload_n 0, 1) := by decide +kernel
theorem dX12_nextLexeme_176 : decode cX12_nextLexeme 176 = .ok (.aload_n 0, 1) := by decide +kernel
theorem dX12_nextLexeme_177 : decode cX12_nextLexeme 177 = .ok (.getfield 75, 3) := by decide +kernel
theorem dX12_nextLexeme_180 : decode cX12_nextLexeme 180 = .ok (.iconst 1, 1) := by decide +kernel
theorem dX12_nextLexeme_181 : decode cX12_nextLexeme 181 = .ok (.iadd, 1) := by decide +kernel
theorem dX12_nextLexeme_182 : decode cX12_nextLexeme 182 = .ok (.invokevirtual 84, 3) := by decide +kernel
theorem dX12_nextLexeme_185 : decode cX12_nextLexeme 185 = .ok (.ifCond .eq 13, 3) := by decide +kernel
theorem dX12_nextLexeme_188 : decode cX12_nextLexeme 188 = .ok (.aload_n 0, 1) := by decide +kernel
theorem dX12_nextLexeme_189 : decode cX12_nextLexeme 189 = .ok (.iconst 2, 1) := by decide +kernel
theorem dX12_nextLexeme_190 : decode cX12_nextLexeme 190 = .ok (.putfield 81, 3) := by decide +kernel
theorem dX12_nextLexeme_193 : decode cX12_nextLexeme 193 = .ok (.aload_n 0, 1) := by decide +kernel
theorem dX12_nextLexeme_194 : decode cX12_nextLexeme 194 = .ok (.iconst 2, 1) := by decide +kernel
theorem dX12_nextLexeme_195 : decode cX12_nextLexeme 195 = .ok (.putfield 78, 3) := by decide +kernel
theorem dX12_nextLexeme_198 : decode cX12_nextLexeme 198 = .ok (.return_, 1) := by decide +kernel
theorem dX12_isWordWork_0 : decode cX12_isWordWork 0 = .ok (.aload_n 0, 1) := by decide +kernel
theorem dX12_isWordWork_1 : decode cX12_isWordWork 1 = .ok (.getfield 81, 3) := by decide +kernel
theorem dX12_isWordWork_4 : decode cX12_isWordWork 4 = .ok (.iconst 1, 1) := by decide +kernel
theorem dX12_isWordWork_5 : decode cX12_isWordWork 5 = .ok (.if_icmp .ne 77, 3) := by decide +kernel
theorem dX12_isWordWork_8 : decode cX12_isWordWork 8 = .ok (.aload_n 0, 1) := by decide +kernel
theorem dX12_isWordWork_9 : decode cX12_isWordWork 9 = .ok (.getfield 78, 3) := by decide +kernel
theorem dX12_isWordWork_12 : decode cX12_isWordWork 12 = .ok (.iconst 4, 1) := by decide +kernel
theorem dX12_isWordWork_13 : decode cX12_isWordWork 13 = .ok (.if_icmp .ne 69, 3) := by decide +kernel
theorem dX12_isWordWork_16 : decode cX12_isWordWork 16 = .ok (.aload_n 0, 1) := by decide +kernel
theorem dX12_isWordWork_17 : decode cX12_isWordWork 17 = .ok (.getfield 16, 3) := by decide +kernel
theorem dX12_isWordWork_20 : decode cX12_isWordWork 20 = .ok (.aload_n 0, 1) := by decide +kernel
theorem dX12_isWordWork_21 : decode cX12_isWordWork 21 = .ok (.getfield 75, 3) := by decide +kernel
theorem dX12_isWordWork_24 : decode cX12_isWordWork 24 = .ok (.iaload, 1) := by decide +kernel
theorem dX12_isWordWork_25 : decode cX12_isWordWork 25 = .ok (.bipush 119, 2) := by decide +kernel
theorem dX12_isWordWork_27 : decode cX12_isWordWork 27 = .ok (.if_icmp .ne 55, 3) := by decide +kernel
theorem dX12_isWordWork_30 : decode cX12_isWordWork 30 = .ok (.aload_n 0, 1) := by decide +kernel
theorem dX12_isWordWork_31 : decode cX12_isWordWork 31 = .ok (.getfield 16, 3) := by decide +kernel
theorem dX12_isWordWork_34 : decode cX12_isWordWork 34 = .ok (.aload_n 0, 1) := by decide +kernel
theorem dX12_isWordWork_35 : decode cX12_isWordWork 35 = .ok (.getfield 75, 3) := by decide +kernel
theorem dX12_isWordWork_38 : decode cX12_isWordWork 38 = .ok (.iconst 1, 1) := by decide +kernel
theorem dX12_isWordWork_39 : decode cX12_isWordWork 39 = .ok (.iadd, 1) := by decide +kernel
theorem dX12_isWordWork_40 : decode cX12_isWordWork 40 = .ok (.iaload, 1) := by decide +kernel
theorem dX12_isWordWork_41 : decode cX12_isWordWork 41 = .ok (.bipush 111, 2) := by decide +kernel
theorem dX12_isWordWork_43 : decode cX12_isWordWork 43 = .ok (.if_icmp .ne 39, 3) := by decide +kernel
theorem dX12_isWordWork_46 : decode cX12_isWordWork 46 = .ok (.aload_n 0, 1) := by decide +kernel
theorem dX12_isWordWork_47 : decode cX12_isWordWork 47 = .ok (.getfield 16, 3) := by decide +kernel
theorem dX12_isWordWork_50 : decode cX12_isWordWork 50 = .ok (.aload_n 0, 1) := by decide +kernel
theorem dX12_isWordWork_51 : decode cX12_isWordWork 51 = .ok (.getfield 75, 3) := by decide +kernel
theorem dX12_isWordWork_54 : decode cX12_isWordWork 54 = .ok (.iconst 2, 1) := by decide +kernel
theorem dX12_isWordWork_55 : decode cX12_isWordWork 55 = .ok (.iadd, 1) := by decide +kernel
theorem dX12_isWordWork_56 : decode cX12_isWordWork 56 = .ok (.iaload, 1) := by decide +kernel
theorem dX12_isWordWork_57 : decode cX12_isWordWork 57 = .ok (.bipush 114, 2) := by decide +kernel
theorem dX12_isWordWork_59 : decode cX12_isWordWork 59 = .ok (.if_icmp .ne 23, 3) := by decide +kernel
theorem dX12_isWordWork_62 : decode cX12_isWordWork 62 = .ok (.aload_n 0, 1) := by decide +kernel
theorem dX12_isWordWork_63 : decode cX12_isWordWork 63 = .ok (.getfield 16, 3) := by decide +kernel
theorem dX12_isWordWork_66 : decode cX12_isWordWork 66 = .ok (.aload_n 0, 1) := by decide +kernel
theorem dX12_isWordWork_67 : decode cX12_isWordWork 67 = .ok (.getfield 75, 3) := by decide +kernel
theorem dX12_isWordWork_70 : decode cX12_isWordWork 70 = .ok (.iconst 3, 1) := by decide +kernel
theorem dX12_isWordWork_71 : decode cX12_isWordWork 71 = .ok (.iadd, 1) := by decide +kernel
theorem dX12_isWordWork_72 : decode cX12_isWordWork 72 = .ok (.iaload, 1) := by decide +kernel
theorem dX12_isWordWork_73 : decode cX12_isWordWork 73 = .ok (.bipush 107, 2) := by decide +kernel
theorem dX12_isWordWork_75 : decode cX12_isWordWork 75 = .ok (.if_icmp .ne 7, 3) := by decide +kernel
theorem dX12_isWordWork_78 : decode cX12_isWordWork 78 = .ok (.iconst 1, 1) := by decide +kernel
theorem dX12_isWordWork_79 : decode cX12_isWordWork 79 = .ok (.goto 4, 3) := by decide +kernel
theorem dX12_isWordWork_82 : decode cX12_isWordWork 82 = .ok (.iconst 0, 1) := by decide +kernel
theorem dX12_isWordWork_83 : decode cX12_isWordWork 83 = .ok (.ireturn, 1) := by decide +kernel
set_option maxRecDepth 20000 in
theorem ggX12_readsWork_X12_nextLexeme : GoodIn wsX12_readsWork wsX12_nextLexeme := goodIn_r _ [10, 5, 2, 11, 3, 12, 13, 14, 15, 16, 9, 17, 4, 18, 19, 20, 21, 22, 23, 24, 25, 26, 27, 28, 29, 30, 31, 32, 33, 34, 35, 36, 37, 38, 39, 40, 41, 42, 43, 44, 45, 46, 47, 48, 49, 50, 51] (by decide +kernel) (by decide +kernel)
set_option maxRecDepth 20000 in
theorem gX12_readsWork_X12_nextLexeme : GoodIn wsX12_readsWork (wsV RX12 95 RX12 yX12_nextLexeme wsX12_nextLexeme) := goodIn_app (goodIn_of _ (by decide +kernel)) ggX12_readsWork_X12_nextLexeme
theorem dX12_readsWork_0 : decode cX12_readsWork 0 = .ok (.iconst 1, 1) := by decide +kernel
theorem dX12_readsWork_1 : decode cX12_readsWork 1 = .ok (.bipush 7, 2) := by decide +kernel
theorem dX12_readsWork_3 : decode cX12_readsWork 3 = .ok (.aload_n 0, 1) := by decide +kernel
theorem dX12_readsWork_4 : decode cX12_readsWork 4 = .ok (.getfield 19, 3) := by decide +kernel
theorem dX12_readsWork_7 : decode cX12_readsWork 7 = .ok (.iconst 0, 1) := by decide +kernel
theorem dX12_readsWork_8 : decode cX12_readsWork 8 = .ok (.iaload, 1) := by decide +kernel
theorem dX12_readsWork_9 : decode cX12_readsWork 9 = .ok (.imul, 1) := by decide +kernel
theorem dX12_readsWork_10 : decode cX12_readsWork 10 = .ok (.iadd, 1) := by decide +kernel
theorem dX12_readsWork_11 : decode cX12_readsWork 11 = .ok (.istore_n 1, 1) := by decide +kernel
theorem dX12_readsWork_12 : decode cX12_readsWork 12 = .ok (.aload_n 0, 1) := by decide +kernel
theorem dX12_readsWork_13 : decode cX12_readsWork 13 = .ok (.getfield 19, 3) := by decide +kernel
theorem dX12_readsWork_16 : decode cX12_readsWork 16 = .ok (.iload_n 1, 1) := by decide +kernel
theorem dX12_readsWork_17 : decode cX12_readsWork 17 = .ok (.iconst 0, 1) := by decide +kernel
theorem dX12_readsWork_18 : decode cX12_readsWork 18 = .ok (.iastore, 1) := by decide +kernel
theorem dX12_readsWork_19 : decode cX12_readsWork 19 = .ok (.aload_n 0, 1) := by decide +kernel
theorem dX12_readsWork_20 : decode cX12_readsWork 20 = .ok (.invokevirtual 95, 3) := by decide +kernel
theorem dX12_readsWork_23 : decode cX12_readsWork 23 = .ok (.aload_n 0, 1) := by decide +kernel
theorem dX12_readsWork_24 : decode cX12_readsWork 24 = .ok (.getfield 78, 3) := by decide +kernel
theorem dX12_readsWork_27 : decode cX12_readsWork 27 = .ok (.ifCond .le 83, 3) := by decide +kernel
theorem dX12_readsWork_30 : decode cX12_readsWork 30 = .ok (.aload_n 0, 1) := by decide +kernel
theorem dX12_readsWork_31 : decode cX12_readsWork 31 = .ok (.getfield 81, 3) := by decide +kernel
theorem dX12_readsWork_34 : decode cX12_readsWork 34 = .ok (.iconst 2, 1) := by decide +kernel
theorem dX12_readsWork_35 : decode cX12_readsWork 35 = .ok (.if_icmp .ne 75, 3) := by decide +kernel
theorem dX12_readsWork_38 : decode cX12_readsWork 38 = .ok (.aload_n 0, 1) := by decide +kernel
theorem dX12_readsWork_39 : decode cX12_readsWork 39 = .ok (.getfield 19, 3) := by decide +kernel
theorem dX12_readsWork_42 : decode cX12_readsWork 42 = .ok (.iload_n 1, 1) := by decide +kernel
theorem dX12_readsWork_43 : decode cX12_readsWork 43 = .ok (.iaload, 1) := by decide +kernel
theorem dX12_readsWork_44 : decode cX12_readsWork 44 = .ok (.iconst 4, 1) := by decide +kernel
theorem dX12_readsWork_45 : decode cX12_readsWork 45 = .ok (.if_icmp .ge 65, 3) := by decide +kernel
theorem dX12_readsWork_48 : decode cX12_readsWork 48 = .ok (.aload_n 0, 1) := by decide +kernel
theorem dX12_readsWork_49 : decode cX12_readsWork 49 = .ok (.getfield 19, 3) := by decide +kernel
theorem dX12_readsWork_52 : decode cX12_readsWork 52 = .ok (.iload_n 1, 1) := by decide +kernel
theorem dX12_readsWork_53 : decode cX12_readsWork 53 = .ok (.iconst 1, 1) := by decide +kernel
theorem dX12_readsWork_54 : decode cX12_readsWork 54 = .ok (.iadd, 1) := by decide +kernel
theorem dX12_readsWork_55 : decode cX12_readsWork 55 = .ok (.aload_n 0, 1) := by decide +kernel
theorem dX12_readsWork_56 : decode cX12_readsWork 56 = .ok (.getfield 19, 3) := by decide +kernel
theorem dX12_readsWork_59 : decode cX12_readsWork 59 = .ok (.iload_n 1, 1) := by decide +kernel
theorem dX12_readsWork_60 : decode cX12_readsWork 60 = .ok (.iaload, 1) := by decide +kernel
theorem dX12_readsWork_61 : decode cX12_readsWork 61 = .ok (.iadd, 1) := by decide +kernel
theorem dX12_readsWork_62 : decode cX12_readsWork 62 = .ok (.bipush 26, 2) := by decide +kernel
theorem dX12_readsWork_64 : decode cX12_readsWork 64 = .ok (.aload_n 0, 1) := by decide +kernel
theorem dX12_readsWork_65 : decode cX12_readsWork 65 = .ok (.getfield 16, 3) := by decide +kernel
theorem dX12_readsWork_68 : decode cX12_readsWork 68 = .ok (.aload_n 0, 1) := by decide +kernel
theorem dX12_readsWork_69 : decode cX12_readsWork 69 = .ok (.getfield 75, 3) := by decide +kernel
theorem dX12_readsWork_72 : decode cX12_readsWork 72 = .ok (.iaload, 1) := by decide +kernel
theorem dX12_readsWork_73 : decode cX12_readsWork 73 = .ok (.bipush 65, 2) := by decide +kernel
theorem dX12_readsWork_75 : decode cX12_readsWork 75 = .ok (.isub, 1) := by decide +kernel
theorem dX12_readsWork_76 : decode cX12_readsWork 76 = .ok (.imul, 1) := by decide +kernel
theorem dX12_readsWork_77 : decode cX12_readsWork 77 = .ok (.aload_n 0, 1) := by decide +kernel
theorem dX12_readsWork_78 : decode cX12_readsWork 78 = .ok (.getfield 16, 3) := by decide +kernel
theorem dX12_readsWork_81 : decode cX12_readsWork 81 = .ok (.aload_n 0, 1) := by decide +kernel
theorem dX12_readsWork_82 : decode cX12_readsWork 82 = .ok (.getfield 75, 3) := by decide +kernel
theorem dX12_readsWork_85 : decode cX12_readsWork 85 = .ok (.iconst 1, 1) := by decide +kernel
theorem dX12_readsWork_86 : decode cX12_readsWork 86 = .ok (.iadd, 1) := by decide +kernel
theorem dX12_readsWork_87 : decode cX12_readsWork 87 = .ok (.iaload, 1) := by decide +kernel
theorem dX12_readsWork_88 : decode cX12_readsWork 88 = .ok (.iadd, 1) := by decide +kernel
theorem dX12_readsWork_89 : decode cX12_readsWork 89 = .ok (.bipush 97, 2) := by decide +kernel
theorem dX12_readsWork_91 : decode cX12_readsWork 91 = .ok (.isub, 1) := by decide +kernel
theorem dX12_readsWork_92 : decode cX12_readsWork 92 = .ok (.iastore, 1) := by decide +kernel
theorem dX12_readsWork_93 : decode cX12_readsWork 93 = .ok (.aload_n 0, 1) := by decide +kernel
theorem dX12_readsWork_94 : decode cX12_readsWork 94 = .ok (.getfield 19, 3) := by decide +kernel
theorem dX12_readsWork_97 : decode cX12_readsWork 97 = .ok (.iload_n 1, 1) := by decide +kernel
theorem dX12_readsWork_98 : decode cX12_readsWork 98 = .ok (.dup2, 1) := by decide +kernel
theorem dX12_readsWork_99 : decode cX12_readsWork 99 = .ok (.iaload, 1) := by decide +kernel
theorem dX12_readsWork_100 : decode cX12_readsWork 100 = .ok (.iconst 1, 1) := by decide +kernel
theorem dX12_readsWork_101 : decode cX12_readsWork 101 = .ok (.iadd, 1) := by decide +kernel
theorem dX12_readsWork_102 : decode cX12_readsWork 102 = .ok (.iastore, 1) := by decide +kernel
theorem dX12_readsWork_103 : decode cX12_readsWork 103 = .ok (.aload_n 0, 1) := by decide +kernel
theorem dX12_readsWork_104 : decode cX12_readsWork 104 = .ok (.invokevirtual 95, 3) := by decide +kernel
theorem dX12_readsWork_107 : decode cX12_readsWork 107 = .ok (.goto (-84), 3) := by decide +kernel
theorem dX12_readsWork_110 : decode cX12_readsWork 110 = .ok (.aload_n 0, 1) := by decide +kernel
theorem dX12_readsWork_111 : decode cX12_readsWork 111 = .ok (.getfield 19, 3) := by decide +kernel
theorem dX12_readsWork_114 : decode cX12_readsWork 114 = .ok (.iload_n 1, 1) := by decide +kernel
theorem dX12_readsWork_115 : decode cX12_readsWork 115 = .ok (.iaload, 1) := by decide +kernel
theorem dX12_readsWork_116 : decode cX12_readsWork 116 = .ok (.ifCond .eq 19, 3) := by decide +kernel
theorem dX12_readsWork_119 : decode cX12_readsWork 119 = .ok (.aload_n 0, 1) := by decide +kernel
theorem dX12_readsWork_120 : decode cX12_readsWork 120 = .ok (.getfield 81, 3) := by decide +kernel
theorem dX12_readsWork_123 : decode cX12_readsWork 123 = .ok (.iconst 3, 1) := by decide +kernel
theorem dX12_readsWork_124 : decode cX12_readsWork 124 = .ok (.if_icmp .ne 11, 3) := by decide +kernel
theorem dX12_readsWork_127 : decode cX12_readsWork 127 = .ok (.aload_n 0, 1) := by decide +kernel
theorem dX12_readsWork_128 : decode cX12_readsWork 128 = .ok (.getfield 78, 3) := by decide +kernel
theorem dX12_readsWork_131 : decode cX12_readsWork 131 = .ok (.iconst 2, 1) := by decide +kernel
theorem dX12_readsWork_132 : decode cX12_readsWork 132 = .ok (.if_icmp .eq 5, 3) := by decide +kernel
theorem dX12_readsWork_135 : decode cX12_readsWork 135 = .ok (.iconst 0, 1) := by decide +kernel
theorem dX12_readsWork_136 : decode cX12_readsWork 136 = .ok (.ireturn, 1) := by decide +kernel
theorem dX12_readsWork_137 : decode cX12_readsWork 137 = .ok (.aload_n 0, 1) := by decide +kernel
theorem dX12_readsWork_138 : decode cX12_readsWork 138 = .ok (.getfield 19, 3) := by decide +kernel
theorem dX12_readsWork_141 : decode cX12_readsWork 141 = .ok (.iload_n 1, 1) := by decide +kernel
theorem dX12_readsWork_142 : decode cX12_readsWork 142 = .ok (.iconst 5, 1) := by decide +kernel
theorem dX12_readsWork_143 : decode cX12_readsWork 143 = .ok (.iadd, 1) := by decide +kernel
theorem dX12_readsWork_144 : decode cX12_readsWork 144 = .ok (.bipush 10, 2) := by decide +kernel
theorem dX12_readsWork_146 : decode cX12_readsWork 146 = .ok (.aload_n 0, 1) := by decide +kernel
theorem dX12_readsWork_147 : decode cX12_readsWork 147 = .ok (.getfield 16, 3) := by decide +kernel
theorem dX12_readsWork_150 : decode cX12_readsWork 150 = .ok (.aload_n 0, 1) := by decide +kernel
theorem dX12_readsWork_151 : decode cX12_readsWork 151 = .ok (.getfield 75, 3) := by decide +kernel
theorem dX12_readsWork_154 : decode cX12_readsWork 154 = .ok (.iaload, 1) := by decide +kernel
theorem dX12_readsWork_155 : decode cX12_readsWork 155 = .ok (.bipush 48, 2) := by decide +kernel
theorem dX12_readsWork_157 : decode cX12_readsWork 157 = .ok (.isub, 1) := by decide +kernel
theorem dX12_readsWork_158 : decode cX12_readsWork 158 = .ok (.imul, 1) := by decide +kernel
theorem dX12_readsWork_159 : decode cX12_readsWork 159 = .ok (.aload_n 0, 1) := by decide +kernel
theorem dX12_readsWork_160 : decode cX12_readsWork 160 = .ok (.getfield 16, 3) := by decide +kernel
theorem dX12_readsWork_163 : decode cX12_readsWork 163 = .ok (.aload_n 0, 1) := by decide +kernel
theorem dX12_readsWork_164 : decode cX12_readsWork 164 = .ok (.getfield 75, 3) := by decide +kernel
theorem dX12_readsWork_167 : decode cX12_readsWork 167 = .ok (.iconst 1, 1) := by decide +kernel
theorem dX12_readsWork_168 : decode cX12_readsWork 168 = .ok (.iadd, 1) := by decide +kernel
theorem dX12_readsWork_169 : decode cX12_readsWork 169 = .ok (.iaload, 1) := by decide +kernel
theorem dX12_readsWork_170 : decode cX12_readsWork 170 = .ok (.iadd, 1) := by decide +kernel
theorem dX12_readsWork_171 : decode cX12_readsWork 171 = .ok (.bipush 48, 2) := by decide +kernel
theorem dX12_readsWork_173 : decode cX12_readsWork 173 = .ok (.isub, 1) := by decide +kernel
theorem dX12_readsWork_174 : decode cX12_readsWork 174 = .ok (.iastore, 1) := by decide +kernel
theorem dX12_readsWork_175 : decode cX12_readsWork 175 = .ok (.aload_n 0, 1) := by decide +kernel
theorem dX12_readsWork_176 : decode cX12_readsWork 176 = .ok (.invokevirtual 95, 3) := by decide +kernel
theorem dX12_readsWork_179 : decode cX12_readsWork 179 = .ok (.aload_n 0, 1) := by decide +kernel
theorem dX12_readsWork_180 : decode cX12_readsWork 180 = .ok (.getfield 81, 3) := by decide +kernel
theorem dX12_readsWork_183 : decode cX12_readsWork 183 = .ok (.iconst 1, 1) := by decide +kernel
theorem dX12_readsWork_184 : decode cX12_readsWork 184 = .ok (.if_icmp .ne 11, 3) := by decide +kernel
theorem dX12_readsWork_187 : decode cX12_readsWork 187 = .ok (.aload_n 0, 1) := by decide +kernel
theorem dX12_readsWork_188 : decode cX12_readsWork 188 = .ok (.getfield 78, 3) := by decide +kernel
theorem dX12_readsWork_191 : decode cX12_readsWork 191 = .ok (.iconst 1, 1) := by decide +kernel
theorem dX12_readsWork_192 : decode cX12_readsWork 192 = .ok (.if_icmp .eq 5, 3) := by decide +kernel
theorem dX12_readsWork_195 : decode cX12_readsWork 195 = .ok (.iconst 0, 1) := by decide +kernel
theorem dX12_readsWork_196 : decode cX12_readsWork 196 = .ok (.ireturn, 1) := by decide +kernel
theorem dX12_readsWork_197 : decode cX12_readsWork 197 = .ok (.aload_n 0, 1) := by decide +kernel
theorem dX12_readsWork_198 : decode cX12_readsWork 198 = .ok (.getfield 19, 3) := by decide +kernel
theorem dX12_readsWork_201 : decode cX12_readsWork 201 = .ok (.iload_n 1, 1) := by decide +kernel
theorem dX12_readsWork_202 : decode cX12_readsWork 202 = .ok (.bipush 6, 2) := by decide +kernel
theorem dX12_readsWork_204 : decode cX12_readsWork 204 = .ok (.iadd, 1) := by decide +kernel
theorem dX12_readsWork_205 : decode cX12_readsWork 205 = .ok (.aload_n 0, 1) := by decide +kernel
theorem dX12_readsWork_206 : decode cX12_readsWork 206 = .ok (.getfield 16, 3) := by decide +kernel
theorem dX12_readsWork_209 : decode cX12_readsWork 209 = .ok (.aload_n 0, 1) := by decide +kernel
theorem dX12_readsWork_210 : decode cX12_readsWork 210 = .ok (.getfield 75, 3) := by decide +kernel
theorem dX12_readsWork_213 : decode cX12_readsWork 213 = .ok (.iaload, 1) := by decide +kernel
theorem dX12_readsWork_214 : decode cX12_readsWork 214 = .ok (.bipush 97, 2) := by decide +kernel
theorem dX12_readsWork_216 : decode cX12_readsWork 216 = .ok (.isub, 1) := by decide +kernel
theorem dX12_readsWork_217 : decode cX12_readsWork 217 = .ok (.iastore, 1) := by decide +kernel
theorem dX12_readsWork_218 : decode cX12_readsWork 218 = .ok (.aload_n 0, 1) := by decide +kernel
theorem dX12_readsWork_219 : decode cX12_readsWork 219 = .ok (.invokevirtual 95, 3) := by decide +kernel
theorem dX12_readsWork_222 : decode cX12_readsWork 222 = .ok (.aload_n 0, 1) := by decide +kernel
theorem dX12_readsWork_223 : decode cX12_readsWork 223 = .ok (.getfield 19, 3) := by decide +kernel
theorem dX12_readsWork_226 : decode cX12_readsWork 226 = .ok (.iconst 0, 1) := by decide +kernel
theorem dX12_readsWork_227 : decode cX12_readsWork 227 = .ok (.dup2, 1) := by decide +kernel
theorem dX12_readsWork_228 : decode cX12_readsWork 228 = .ok (.iaload, 1) := by decide +kernel
theorem dX12_readsWork_229 : decode cX12_readsWork 229 = .ok (.iconst 1, 1) := by decide +kernel
theorem dX12_readsWork_230 : decode cX12_readsWork 230 = .ok (.iadd, 1) := by decide +kernel
theorem dX12_readsWork_231 : decode cX12_readsWork 231 = .ok (.iastore, 1) := by decide +kernel
theorem dX12_readsWork_232 : decode cX12_readsWork 232 = .ok (.aload_n 0, 1) := by decide +kernel
theorem dX12_readsWork_233 : decode cX12_readsWork 233 = .ok (.getfield 78, 3) := by decide +kernel
theorem dX12_readsWork_236 : decode cX12_readsWork 236 = .ok (.ifCond .le 21, 3) := by decide +kernel
theorem dX12_readsWork_239 : decode cX12_readsWork 239 = .ok (.aload_n 0, 1) := by decide +kernel
theorem dX12_readsWork_240 : decode cX12_readsWork 240 = .ok (.getfield 16, 3) := by decide +kernel
theorem dX12_readsWork_243 : decode cX12_readsWork 243 = .ok (.aload_n 0, 1) := by decide +kernel
theorem dX12_readsWork_244 : decode cX12_readsWork 244 = .ok (.getfield 75, 3) := by decide +kernel
theorem dX12_readsWork_247 : decode cX12_readsWork 247 = .ok (.iaload, 1) := by decide +kernel
theorem dX12_readsWork_248 : decode cX12_readsWork 248 = .ok (.bipush 59, 2) := by decide +kernel
theorem dX12_readsWork_250 : decode cX12_readsWork 250 = .ok (.if_icmp .ne 7, 3) := by decide +kernel
theorem dX12_readsWork_253 : decode cX12_readsWork 253 = .ok (.iconst 1, 1) := by decide +kernel
theorem dX12_readsWork_254 : decode cX12_readsWork 254 = .ok (.goto 4, 3) := by decide +kernel
theorem dX12_readsWork_257 : decode cX12_readsWork 257 = .ok (.iconst 0, 1) := by decide +kernel
theorem dX12_readsWork_258 : decode cX12_readsWork 258 = .ok (.ireturn, 1) := by decide +kernel
set_option maxRecDepth 20000 in
theorem ggX12_loadWorks_X12_nextLexeme : GoodIn wsX12_loadWorks wsX12_nextLexeme := goodIn_r _ [10, 2, 3, 5, 11, 12, 13, 14, 15, 16, 9, 17, 18, 19, 20, 21, 22, 23, 24, 25, 26, 27, 28, 29, 30, 31, 32, 33, 48, 49, 50, 51, 52, 53, 54, 55, 56, 57, 58, 59, 60, 61, 62, 63, 64, 65, 66] (by decide +kernel) (by decide +kernel)
set_option maxRecDepth 20000 in
theorem gX12_loadWorks_X12_nextLexeme : GoodIn wsX12_loadWorks (wsV RX12 95 RX12 yX12_nextLexeme wsX12_nextLexeme) := goodIn_app (goodIn_of _ (by decide +kernel)) ggX12_loadWorks_X12_nextLexeme
set_option maxRecDepth 20000 in
theorem ggX12_loadWorks_X12_isWordWork : GoodIn wsX12_loadWorks wsX12_isWordWork := goodIn_r _ [37, 11, 3, 18, 2, 48, 49, 50, 51, 52, 53, 54, 55, 56, 57, 58, 59, 60, 61, 62, 63, 64, 65, 66] (by decide +kernel) (by decide +kernel)
set_option maxRecDepth 20000 in
theorem gX12_loadWorks_X12_isWordWork : GoodIn wsX12_loadWorks (wsV RX12 98 RX12 yX12_isWordWork wsX12_isWordWork) := goodIn_app (goodIn_of _ (by decide +kernel)) ggX12_loadWorks_X12_isWordWork
set_option maxRecDepth 20000 in
theorem ggX12_loadWorks_X12_readsWork : GoodIn wsX12_loadWorks wsX12_readsWork := goodIn_r _ [41, 1, 3, 11, 18, 2, 6, 7, 8, 9, 10, 5, 12, 13, 14, 15, 16, 17, 19, 20, 21, 22, 23, 24, 25, 26, 27, 28, 29, 30, 31, 32, 33, 48, 49, 50, 51, 52, 53, 54, 55, 56, 57, 58, 59, 60, 61, 62, 63, 64, 65, 66] (by decide +kernel) (by decide +kernel)
set_option maxRecDepth 20000 in
theorem gX12_loadWorks_X12_readsWork : GoodIn wsX12_loadWorks (wsV RX12 102 RX12 yX12_readsWork wsX12_readsWork) := goodIn_app (goodIn_of _ (by decide +kernel)) ggX12_loadWorks_X12_readsWork
set_option maxRecDepth 20000 in
theorem ggX12_loadWorks_X12_keeps : GoodIn wsX12_loadWorks wsX12_keeps := goodIn_r _ [45, 46, 47, 4, 48, 49, 50, 51, 52, 53, 54, 55, 56, 57, 58, 59, 60, 61, 62, 63, 64, 65, 66] (by decide +kernel) (by decide +kernel)
set_option maxRecDepth 20000 in
theorem gX12_loadWorks_X12_keeps : GoodIn wsX12_loadWorks (wsV RX12 105 RX12 yX12_keeps wsX12_keeps) := goodIn_app (goodIn_of _ (by decide +kernel)) ggX12_loadWorks_X12_keeps
theorem dX12_loadWorks_0 : decode cX12_loadWorks 0 = .ok (.aload_n 0, 1) := by decide +kernel
theorem dX12_loadWorks_1 : decode cX12_loadWorks 1 = .ok (.getfield 19, 3) := by decide +kernel
theorem dX12_loadWorks_4 : decode cX12_loadWorks 4 = .ok (.iconst 0, 1) := by decide +kernel
theorem dX12_loadWorks_5 : decode cX12_loadWorks 5 = .ok (.iconst 0, 1) := by decide +kernel
theorem dX12_loadWorks_6 : decode cX12_loadWorks 6 = .ok (.iastore, 1) := by decide +kernel
theorem dX12_loadWorks_7 : decode cX12_loadWorks 7 = .ok (.aload_n 0, 1) := by decide +kernel
theorem dX12_loadWorks_8 : decode cX12_loadWorks 8 = .ok (.iconst 0, 1) := by decide +kernel
theorem dX12_loadWorks_9 : decode cX12_loadWorks 9 = .ok (.putfield 75, 3) := by decide +kernel
theorem dX12_loadWorks_12 : decode cX12_loadWorks 12 = .ok (.aload_n 0, 1) := by decide +kernel
theorem dX12_loadWorks_13 : decode cX12_loadWorks 13 = .ok (.iconst 0, 1) := by decide +kernel
theorem dX12_loadWorks_14 : decode cX12_loadWorks 14 = .ok (.putfield 78, 3) := by decide +kernel
theorem dX12_loadWorks_17 : decode cX12_loadWorks 17 = .ok (.aload_n 0, 1) := by decide +kernel
theorem dX12_loadWorks_18 : decode cX12_loadWorks 18 = .ok (.invokevirtual 95, 3) := by decide +kernel
theorem dX12_loadWorks_21 : decode cX12_loadWorks 21 = .ok (.aload_n 0, 1) := by decide +kernel
theorem dX12_loadWorks_22 : decode cX12_loadWorks 22 = .ok (.getfield 78, 3) := by decide +kernel
theorem dX12_loadWorks_25 : decode cX12_loadWorks 25 = .ok (.ifCond .le 43, 3) := by decide +kernel
theorem dX12_loadWorks_28 : decode cX12_loadWorks 28 = .ok (.aload_n 0, 1) := by decide +kernel
theorem dX12_loadWorks_29 : decode cX12_loadWorks 29 = .ok (.invokevirtual 98, 3) := by decide +kernel
theorem dX12_loadWorks_32 : decode cX12_loadWorks 32 = .ok (.ifCond .eq 21, 3) := by decide +kernel
theorem dX12_loadWorks_35 : decode cX12_loadWorks 35 = .ok (.aload_n 0, 1) := by decide +kernel
theorem dX12_loadWorks_36 : decode cX12_loadWorks 36 = .ok (.getfield 19, 3) := by decide +kernel
theorem dX12_loadWorks_39 : decode cX12_loadWorks 39 = .ok (.iconst 0, 1) := by decide +kernel
theorem dX12_loadWorks_40 : decode cX12_loadWorks 40 = .ok (.iaload, 1) := by decide +kernel
theorem dX12_loadWorks_41 : decode cX12_loadWorks 41 = .ok (.bipush 8, 2) := by decide +kernel
theorem dX12_loadWorks_43 : decode cX12_loadWorks 43 = .ok (.if_icmp .eq 10, 3) := by decide +kernel
theorem dX12_loadWorks_46 : decode cX12_loadWorks 46 = .ok (.aload_n 0, 1) := by decide +kernel
theorem dX12_loadWorks_47 : decode cX12_loadWorks 47 = .ok (.invokevirtual 102, 3) := by decide +kernel
theorem dX12_loadWorks_50 : decode cX12_loadWorks 50 = .ok (.ifCond .ne 11, 3) := by decide +kernel
theorem dX12_loadWorks_53 : decode cX12_loadWorks 53 = .ok (.bipush (-10), 2) := by decide +kernel
theorem dX12_loadWorks_55 : decode cX12_loadWorks 55 = .ok (.aload_n 0, 1) := by decide +kernel
theorem dX12_loadWorks_56 : decode cX12_loadWorks 56 = .ok (.getfield 75, 3) := by decide +kernel
theorem dX12_loadWorks_59 : decode cX12_loadWorks 59 = .ok (.isub, 1) := by decide +kernel
theorem dX12_loadWorks_60 : decode cX12_loadWorks 60 = .ok (.ireturn, 1) := by decide +kernel
theorem dX12_loadWorks_61 : decode cX12_loadWorks 61 = .ok (.aload_n 0, 1) := by decide +kernel
theorem dX12_loadWorks_62 : decode cX12_loadWorks 62 = .ok (.invokevirtual 95, 3) := by decide +kernel
theorem dX12_loadWorks_65 : decode cX12_loadWorks 65 = .ok (.goto (-44), 3) := by decide +kernel
theorem dX12_loadWorks_68 : decode cX12_loadWorks 68 = .ok (.aload_n 0, 1) := by decide +kernel
theorem dX12_loadWorks_69 : decode cX12_loadWorks 69 = .ok (.invokevirtual 105, 3) := by decide +kernel
theorem dX12_loadWorks_72 : decode cX12_loadWorks 72 = .ok (.iconst 0, 1) := by decide +kernel
theorem dX12_loadWorks_73 : decode cX12_loadWorks 73 = .ok (.istore_n 1, 1) := by decide +kernel
theorem dX12_loadWorks_74 : decode cX12_loadWorks 74 = .ok (.iload_n 1, 1) := by decide +kernel
theorem dX12_loadWorks_75 : decode cX12_loadWorks 75 = .ok (.bipush 57, 2) := by decide +kernel
theorem dX12_loadWorks_77 : decode cX12_loadWorks 77 = .ok (.if_icmp .ge 21, 3) := by decide +kernel
theorem dX12_loadWorks_80 : decode cX12_loadWorks 80 = .ok (.aload_n 0, 1) := by decide +kernel
theorem dX12_loadWorks_81 : decode cX12_loadWorks 81 = .ok (.getfield 7, 3) := by decide +kernel
theorem dX12_loadWorks_84 : decode cX12_loadWorks 84 = .ok (.iload_n 1, 1) := by decide +kernel
theorem dX12_loadWorks_85 : decode cX12_loadWorks 85 = .ok (.aload_n 0, 1) := by decide +kernel
theorem dX12_loadWorks_86 : decode cX12_loadWorks 86 = .ok (.getfield 19, 3) := by decide +kernel
theorem dX12_loadWorks_89 : decode cX12_loadWorks 89 = .ok (.iload_n 1, 1) := by decide +kernel
theorem dX12_loadWorks_90 : decode cX12_loadWorks 90 = .ok (.iaload, 1) := by decide +kernel
theorem dX12_loadWorks_91 : decode cX12_loadWorks 91 = .ok (.iastore, 1) := by decide +kernel
theorem dX12_loadWorks_92 : decode cX12_loadWorks 92 = .ok (.iinc 1 1, 3) := by decide +kernel
theorem dX12_loadWorks_95 : decode cX12_loadWorks 95 = .ok (.goto (-21), 3) := by decide +kernel
theorem dX12_loadWorks_98 : decode cX12_loadWorks 98 = .ok (.aload_n 0, 1) := by decide +kernel
theorem dX12_loadWorks_99 : decode cX12_loadWorks 99 = .ok (.getfield 7, 3) := by decide +kernel
theorem dX12_loadWorks_102 : decode cX12_loadWorks 102 = .ok (.bipush 70, 2) := by decide +kernel
theorem dX12_loadWorks_104 : decode cX12_loadWorks 104 = .ok (.iconst 0, 1) := by decide +kernel
theorem dX12_loadWorks_105 : decode cX12_loadWorks 105 = .ok (.iastore, 1) := by decide +kernel
theorem dX12_loadWorks_106 : decode cX12_loadWorks 106 = .ok (.aload_n 0, 1) := by decide +kernel
theorem dX12_loadWorks_107 : decode cX12_loadWorks 107 = .ok (.iconst 0, 1) := by decide +kernel
theorem dX12_loadWorks_108 : decode cX12_loadWorks 108 = .ok (.putfield 60, 3) := by decide +kernel
theorem dX12_loadWorks_111 : decode cX12_loadWorks 111 = .ok (.aload_n 0, 1) := by decide +kernel
theorem dX12_loadWorks_112 : decode cX12_loadWorks 112 = .ok (.getfield 7, 3) := by decide +kernel
theorem dX12_loadWorks_115 : decode cX12_loadWorks 115 = .ok (.iconst 0, 1) := by decide +kernel
theorem dX12_loadWorks_116 : decode cX12_loadWorks 116 = .ok (.iaload, 1) := by decide +kernel
theorem dX12_loadWorks_117 : decode cX12_loadWorks 117 = .ok (.ireturn, 1) := by decide +kernel
set_option maxRecDepth 20000 in
theorem ggX12_expandNumbers_X12_layNumbers : GoodIn wsX12_expandNumbers wsX12_layNumbers := goodIn_r _ [9, 4, 10, 11, 12, 13, 14, 8, 15, 16, 17, 18, 19, 20, 21, 22, 23, 24, 25, 26, 27, 28, 29, 30, 31, 32, 33, 34, 35, 36, 37, 38, 39, 40, 41, 42, 43, 44, 45, 46, 47, 55, 56, 57, 58, 59, 60, 61, 62, 63, 64, 65, 66, 67, 68, 69, 70, 71, 72, 73] (by decide +kernel) (by decide +kernel)
set_option maxRecDepth 20000 in
theorem gX12_expandNumbers_X12_layNumbers : GoodIn wsX12_expandNumbers (wsV RX12 108 RX12 yX12_layNumbers wsX12_layNumbers) := goodIn_app (goodIn_of _ (by decide +kernel)) ggX12_expandNumbers_X12_layNumbers
set_option maxRecDepth 20000 in
theorem ggX12_expandNumbers_X12_in : GoodIn wsX12_expandNumbers wsX12_in := goodIn_r _ [50] (by decide +kernel) (by decide +kernel)
set_option maxRecDepth 20000 in
theorem gX12_expandNumbers_X12_in : GoodIn wsX12_expandNumbers (va_wsS RX12 50 yX12_in wsX12_in) := goodIn_app (goodIn_of _ (by decide +kernel)) ggX12_expandNumbers_X12_in
set_option maxRecDepth 20000 in
theorem ggX12_expandNumbers_X12_workOf : GoodIn wsX12_expandNumbers wsX12_workOf := goodIn_r _ [54, 10, 55, 56, 57, 58, 59, 60, 61, 62, 63, 64, 65, 66, 67, 68, 69, 70, 71, 72, 73] (by decide +kernel) (by decide +kernel)
set_option maxRecDepth 20000 in
theorem gX12_expandNumbers_X12_workOf : GoodIn wsX12_expandNumbers (wsV RX12 113 RX12 yX12_workOf wsX12_workOf) := goodIn_app (goodIn_of _ (by decide +kernel)) ggX12_expandNumbers_X12_workOf
theorem dX12_expandNumbers_0 : decode cX12_expandNumbers 0 = .ok (.aload_n 0, 1) := by decide +kernel
theorem dX12_expandNumbers_1 : decode cX12_expandNumbers 1 = .ok (.invokevirtual 108, 3) := by decide +kernel
theorem dX12_expandNumbers_4 : decode cX12_expandNumbers 4 = .ok (.iconst 0, 1) := by decide +kernel
theorem dX12_expandNumbers_5 : decode cX12_expandNumbers 5 = .ok (.istore_n 1, 1) := by decide +kernel
theorem dX12_expandNumbers_6 : decode cX12_expandNumbers 6 = .ok (.iconst 0, 1) := by decide +kernel
theorem dX12_expandNumbers_7 : decode cX12_expandNumbers 7 = .ok (.istore_n 2, 1) := by decide +kernel
theorem dX12_expandNumbers_8 : decode cX12_expandNumbers 8 = .ok (.iconst 0, 1) := by decide +kernel
theorem dX12_expandNumbers_9 : decode cX12_expandNumbers 9 = .ok (.istore_n 3, 1) := by decide +kernel
theorem dX12_expandNumbers_10 : decode cX12_expandNumbers 10 = .ok (.iconst 0, 1) := by decide +kernel
theorem dX12_expandNumbers_11 : decode cX12_expandNumbers 11 = .ok (.istore 4, 2) := by decide +kernel
theorem dX12_expandNumbers_13 : decode cX12_expandNumbers 13 = .ok (.iload 4, 2) := by decide +kernel
theorem dX12_expandNumbers_15 : decode cX12_expandNumbers 15 = .ok (.aload_n 0, 1) := by decide +kernel
theorem dX12_expandNumbers_16 : decode cX12_expandNumbers 16 = .ok (.getfield 60, 3) := by decide +kernel
theorem dX12_expandNumbers_19 : decode cX12_expandNumbers 19 = .ok (.if_icmp .ge 216, 3) := by decide +kernel
theorem dX12_expandNumbers_22 : decode cX12_expandNumbers 22 = .ok (.aload_n 0, 1) := by decide +kernel
theorem dX12_expandNumbers_23 : decode cX12_expandNumbers 23 = .ok (.getfield 16, 3) := by decide +kernel
theorem dX12_expandNumbers_26 : decode cX12_expandNumbers 26 = .ok (.iload 4, 2) := by decide +kernel
theorem dX12_expandNumbers_28 : decode cX12_expandNumbers 28 = .ok (.iaload, 1) := by decide +kernel
theorem dX12_expandNumbers_29 : decode cX12_expandNumbers 29 = .ok (.istore 5, 2) := by decide +kernel
theorem dX12_expandNumbers_31 : decode cX12_expandNumbers 31 = .ok (.iload 5, 2) := by decide +kernel
theorem dX12_expandNumbers_33 : decode cX12_expandNumbers 33 = .ok (.i2l, 1) := by decide +kernel
theorem dX12_expandNumbers_34 : decode cX12_expandNumbers 34 = .ok (.ldc2_w 111, 3) := by decide +kernel
theorem dX12_expandNumbers_37 : decode cX12_expandNumbers 37 = .ok (.bipush 48, 2) := by decide +kernel
theorem dX12_expandNumbers_39 : decode cX12_expandNumbers 39 = .ok (.aload_n 0, 1) := by decide +kernel
theorem dX12_expandNumbers_40 : decode cX12_expandNumbers 40 = .ok (.getfield 7, 3) := by decide +kernel
theorem dX12_expandNumbers_43 : decode cX12_expandNumbers 43 = .ok (.iconst 0, 1) := by decide +kernel
theorem dX12_expandNumbers_44 : decode cX12_expandNumbers 44 = .ok (.iaload, 1) := by decide +kernel
theorem dX12_expandNumbers_45 : decode cX12_expandNumbers 45 = .ok (.iadd, 1) := by decide +kernel
theorem dX12_expandNumbers_46 : decode cX12_expandNumbers 46 = .ok (.i2l, 1) := by decide +kernel
theorem dX12_expandNumbers_47 : decode cX12_expandNumbers 47 = .ok (.invokestatic 50, 3) := by decide +kernel
theorem dX12_expandNumbers_50 : decode cX12_expandNumbers 50 = .ok (.istore 6, 2) := by decide +kernel
theorem dX12_expandNumbers_52 : decode cX12_expandNumbers 52 = .ok (.iconst (-1), 1) := by decide +kernel
theorem dX12_expandNumbers_53 : decode cX12_expandNumbers 53 = .ok (.istore 7, 2) := by decide +kernel
theorem dX12_expandNumbers_55 : decode cX12_expandNumbers 55 = .ok (.iload_n 3, 1) := by decide +kernel
theorem dX12_expandNumbers_56 : decode cX12_expandNumbers 56 = .ok (.ifCond .ne 16, 3) := by decide +kernel
theorem dX12_expandNumbers_59 : decode cX12_expandNumbers 59 = .ok (.iload 5, 2) := by decide +kernel
theorem dX12_expandNumbers_61 : decode cX12_expandNumbers 61 = .ok (.bipush 91, 2) := by decide +kernel
theorem dX12_expandNumbers_63 : decode cX12_expandNumbers 63 = .ok (.if_icmp .ne 9, 3) := by decide +kernel
theorem dX12_expandNumbers_66 : decode cX12_expandNumbers 66 = .ok (.iconst 1, 1) := by decide +kernel
theorem dX12_expandNumbers_67 : decode cX12_expandNumbers 67 = .ok (.istore 7, 2) := by decide +kernel
theorem dX12_expandNumbers_69 : decode cX12_expandNumbers 69 = .ok (.goto 146, 3) := by decide +kernel
theorem dX12_expandNumbers_72 : decode cX12_expandNumbers 72 = .ok (.iload_n 3, 1) := by decide +kernel
theorem dX12_expandNumbers_73 : decode cX12_expandNumbers 73 = .ok (.iconst 1, 1) := by decide +kernel
theorem dX12_expandNumbers_74 : decode cX12_expandNumbers 74 = .ok (.if_icmp .ne 30, 3) := by decide +kernel
theorem dX12_expandNumbers_77 : decode cX12_expandNumbers 77 = .ok (.iload 6, 2) := by decide +kernel
theorem dX12_expandNumbers_79 : decode cX12_expandNumbers 79 = .ok (.ifCond .eq 25, 3) := by decide +kernel
theorem dX12_expandNumbers_82 : decode cX12_expandNumbers 82 = .ok (.iconst 2, 1) := by decide +kernel
theorem dX12_expandNumbers_83 : decode cX12_expandNumbers 83 = .ok (.istore 7, 2) := by decide +kernel
theorem dX12_expandNumbers_85 : decode cX12_expandNumbers 85 = .ok (.iload 5, 2) := by decide +kernel
theorem dX12_expandNumbers_87 : decode cX12_expandNumbers 87 = .ok (.bipush 48, 2) := by decide +kernel
theorem dX12_expandNumbers_89 : decode cX12_expandNumbers 89 = .ok (.isub, 1) := by decide +kernel
theorem dX12_expandNumbers_90 : decode cX12_expandNumbers 90 = .ok (.istore_n 2, 1) := by decide +kernel
theorem dX12_expandNumbers_91 : decode cX12_expandNumbers 91 = .ok (.iload_n 1, 1) := by decide +kernel
theorem dX12_expandNumbers_92 : decode cX12_expandNumbers 92 = .ok (.iconst 1, 1) := by decide +kernel
theorem dX12_expandNumbers_93 : decode cX12_expandNumbers 93 = .ok (.aload_n 0, 1) := by decide +kernel
theorem dX12_expandNumbers_94 : decode cX12_expandNumbers 94 = .ok (.iload_n 2, 1) := by decide +kernel
theorem dX12_expandNumbers_95 : decode cX12_expandNumbers 95 = .ok (.invokevirtual 113, 3) := by decide +kernel
theorem dX12_expandNumbers_98 : decode cX12_expandNumbers 98 = .ok (.ishl, 1) := by decide +kernel
theorem dX12_expandNumbers_99 : decode cX12_expandNumbers 99 = .ok (.ior, 1) := by decide +kernel
theorem dX12_expandNumbers_100 : decode cX12_expandNumbers 100 = .ok (.istore_n 1, 1) := by decide +kernel
theorem dX12_expandNumbers_101 : decode cX12_expandNumbers 101 = .ok (.goto 114, 3) := by decide +kernel
theorem dX12_expandNumbers_104 : decode cX12_expandNumbers 104 = .ok (.iload_n 3, 1) := by decide +kernel
theorem dX12_expandNumbers_105 : decode cX12_expandNumbers 105 = .ok (.iconst 3, 1) := by decide +kernel
theorem dX12_expandNumbers_106 : decode cX12_expandNumbers 106 = .ok (.if_icmp .ne 53, 3) := by decide +kernel
theorem dX12_expandNumbers_109 : decode cX12_expandNumbers 109 = .ok (.iload 6, 2) := by decide +kernel
theorem dX12_expandNumbers_111 : decode cX12_expandNumbers 111 = .ok (.ifCond .eq 48, 3) := by decide +kernel
theorem dX12_expandNumbers_114 : decode cX12_expandNumbers 114 = .ok (.iload 5, 2) := by decide +kernel
theorem dX12_expandNumbers_116 : decode cX12_expandNumbers 116 = .ok (.bipush 48, 2) := by decide +kernel
theorem dX12_expandNumbers_118 : decode cX12_expandNumbers 118 = .ok (.isub, 1) := by decide +kernel
theorem dX12_expandNumbers_119 : decode cX12_expandNumbers 119 = .ok (.iload_n 2, 1) := by decide +kernel
theorem dX12_expandNumbers_120 : decode cX12_expandNumbers 120 = .ok (.if_icmp .le 39, 3) := by decide +kernel
theorem dX12_expandNumbers_123 : decode cX12_expandNumbers 123 = .ok (.iconst 4, 1) := by decide +kernel
theorem dX12_expandNumbers_124 : decode cX12_expandNumbers 124 = .ok (.istore 7, 2) := by decide +kernel
theorem dX12_expandNumbers_126 : decode cX12_expandNumbers 126 = .ok (.iload_n 2, 1) := by decide +kernel
theorem dX12_expandNumbers_127 : decode cX12_expandNumbers 127 = .ok (.istore 8, 2) := by decide +kernel
theorem dX12_expandNumbers_129 : decode cX12_expandNumbers 129 = .ok (.iload 8, 2) := by decide +kernel
theorem dX12_expandNumbers_131 : decode cX12_expandNumbers 131 = .ok (.iload 5, 2) := by decide +kernel
theorem dX12_expandNumbers_133 : decode cX12_expandNumbers 133 = .ok (.bipush 48, 2) := by decide +kernel
theorem dX12_expandNumbers_135 : decode cX12_expandNumbers 135 = .ok (.isub, 1) := by decide +kernel
theorem dX12_expandNumbers_136 : decode cX12_expandNumbers 136 = .ok (.if_icmp .gt 20, 3) := by decide +kernel
theorem dX12_expandNumbers_139 : decode cX12_expandNumbers 139 = .ok (.iload_n 1, 1) := by decide +kernel
theorem dX12_expandNumbers_140 : decode cX12_expandNumbers 140 = .ok (.iconst 1, 1) := by decide +kernel
theorem dX12_expandNumbers_141 : decode cX12_expandNumbers 141 = .ok (.aload_n 0, 1) := by decide +kernel
theorem dX12_expandNumbers_142 : decode cX12_expandNumbers 142 = .ok (.iload 8, 2) := by decide +kernel
theorem dX12_expandNumbers_144 : decode cX12_expandNumbers 144 = .ok (.invokevirtual 113, 3) := by decide +kernel
theorem dX12_expandNumbers_147 : decode cX12_expandNumbers 147 = .ok (.ishl, 1) := by decide +kernel
theorem dX12_expandNumbers_148 : decode cX12_expandNumbers 148 = .ok (.ior, 1) := by decide +kernel
theorem dX12_expandNumbers_149 : decode cX12_expandNumbers 149 = .ok (.istore_n 1, 1) := by decide +kernel
theorem dX12_expandNumbers_150 : decode cX12_expandNumbers 150 = .ok (.iinc 8 1, 3) := by decide +kernel
theorem dX12_expandNumbers_153 : decode cX12_expandNumbers 153 = .ok (.goto (-24), 3) := by decide +kernel
theorem dX12_expandNumbers_156 : decode cX12_expandNumbers 156 = .ok (.goto 59, 3) := by decide +kernel
theorem dX12_expandNumbers_159 : decode cX12_expandNumbers 159 = .ok (.iload_n 3, 1) := by decide +kernel
theorem dX12_expandNumbers_160 : decode cX12_expandNumbers 160 = .ok (.iconst 2, 1) := by decide +kernel
theorem dX12_expandNumbers_161 : decode cX12_expandNumbers 161 = .ok (.if_icmp .ne 16, 3) := by decide +kernel
theorem dX12_expandNumbers_164 : decode cX12_expandNumbers 164 = .ok (.iload 5, 2) := by decide +kernel
theorem dX12_expandNumbers_166 : decode cX12_expandNumbers 166 = .ok (.bipush 45, 2) := by decide +kernel
theorem dX12_expandNumbers_168 : decode cX12_expandNumbers 168 = .ok (.if_icmp .ne 9, 3) := by decide +kernel
theorem dX12_expandNumbers_171 : decode cX12_expandNumbers 171 = .ok (.iconst 3, 1) := by decide +kernel
theorem dX12_expandNumbers_172 : decode cX12_expandNumbers 172 = .ok (.istore 7, 2) := by decide +kernel
theorem dX12_expandNumbers_174 : decode cX12_expandNumbers 174 = .ok (.goto 41, 3) := by decide +kernel
theorem dX12_expandNumbers_177 : decode cX12_expandNumbers 177 = .ok (.iload_n 3, 1) := by decide +kernel
theorem dX12_expandNumbers_178 : decode cX12_expandNumbers 178 = .ok (.iconst 2, 1) := by decide +kernel
theorem dX12_expandNumbers_179 : decode cX12_expandNumbers 179 = .ok (.if_icmp .eq 8, 3) := by decide +kernel
theorem dX12_expandNumbers_182 : decode cX12_expandNumbers 182 = .ok (.iload_n 3, 1) := by decide +kernel
theorem dX12_expandNumbers_183 : decode cX12_expandNumbers 183 = .ok (.iconst 4, 1) := by decide +kernel
theorem dX12_expandNumbers_184 : decode cX12_expandNumbers 184 = .ok (.if_icmp .ne 31, 3) := by decide +kernel
theorem dX12_expandNumbers_187 : decode cX12_expandNumbers 187 = .ok (.iload 5, 2) := by decide +kernel
theorem dX12_expandNumbers_189 : decode cX12_expandNumbers 189 = .ok (.bipush 44, 2) := by decide +kernel
theorem dX12_expandNumbers_191 : decode cX12_expandNumbers 191 = .ok (.if_icmp .eq 10, 3) := by decide +kernel
theorem dX12_expandNumbers_194 : decode cX12_expandNumbers 194 = .ok (.iload 5, 2) := by decide +kernel
theorem dX12_expandNumbers_196 : decode cX12_expandNumbers 196 = .ok (.bipush 93, 2) := by decide +kernel
theorem dX12_expandNumbers_198 : decode cX12_expandNumbers 198 = .ok (.if_icmp .ne 17, 3) := by decide +kernel
theorem dX12_expandNumbers_201 : decode cX12_expandNumbers 201 = .ok (.iload 5, 2) := by decide +kernel
theorem dX12_expandNumbers_203 : decode cX12_expandNumbers 203 = .ok (.bipush 44, 2) := by decide +kernel
theorem dX12_expandNumbers_205 : decode cX12_expandNumbers 205 = .ok (.if_icmp .ne 7, 3) := by decide +kernel
theorem dX12_expandNumbers_208 : decode cX12_expandNumbers 208 = .ok (.iconst 1, 1) := by decide +kernel
theorem dX12_expandNumbers_209 : decode cX12_expandNumbers 209 = .ok (.goto 4, 3) := by decide +kernel
theorem dX12_expandNumbers_212 : decode cX12_expandNumbers 212 = .ok (.iconst 5, 1) := by decide +kernel
theorem dX12_expandNumbers_213 : decode cX12_expandNumbers 213 = .ok (.istore 7, 2) := by decide +kernel
theorem dX12_expandNumbers_215 : decode cX12_expandNumbers 215 = .ok (.iload 7, 2) := by decide +kernel
theorem dX12_expandNumbers_217 : decode cX12_expandNumbers 217 = .ok (.ifCond .ge 9, 3) := by decide +kernel
theorem dX12_expandNumbers_220 : decode cX12_expandNumbers 220 = .ok (.bipush (-10), 2) := by decide +kernel
theorem dX12_expandNumbers_222 : decode cX12_expandNumbers 222 = .ok (.iload 4, 2) := by decide +kernel
theorem dX12_expandNumbers_224 : decode cX12_expandNumbers 224 = .ok (.isub, 1) := by decide +kernel
theorem dX12_expandNumbers_225 : decode cX12_expandNumbers 225 = .ok (.ireturn, 1) := by decide +kernel
theorem dX12_expandNumbers_226 : decode cX12_expandNumbers 226 = .ok (.iload 7, 2) := by decide +kernel
theorem dX12_expandNumbers_228 : decode cX12_expandNumbers 228 = .ok (.istore_n 3, 1) := by decide +kernel
theorem dX12_expandNumbers_229 : decode cX12_expandNumbers 229 = .ok (.iinc 4 1, 3) := by decide +kernel
theorem dX12_expandNumbers_232 : decode cX12_expandNumbers 232 = .ok (.goto (-219), 3) := by decide +kernel
theorem dX12_expandNumbers_235 : decode cX12_expandNumbers 235 = .ok (.iload_n 3, 1) := by decide +kernel
theorem dX12_expandNumbers_236 : decode cX12_expandNumbers 236 = .ok (.iconst 5, 1) := by decide +kernel
theorem dX12_expandNumbers_237 : decode cX12_expandNumbers 237 = .ok (.if_icmp .eq 11, 3) := by decide +kernel
theorem dX12_expandNumbers_240 : decode cX12_expandNumbers 240 = .ok (.bipush (-10), 2) := by decide +kernel
theorem dX12_expandNumbers_242 : decode cX12_expandNumbers 242 = .ok (.aload_n 0, 1) := by decide +kernel
theorem dX12_expandNumbers_243 : decode cX12_expandNumbers 243 = .ok (.getfield 60, 3) := by decide +kernel
theorem dX12_expandNumbers_246 : decode cX12_expandNumbers 246 = .ok (.isub, 1) := by decide +kernel
theorem dX12_expandNumbers_247 : decode cX12_expandNumbers 247 = .ok (.ireturn, 1) := by decide +kernel
theorem dX12_expandNumbers_248 : decode cX12_expandNumbers 248 = .ok (.aload_n 0, 1) := by decide +kernel
theorem dX12_expandNumbers_249 : decode cX12_expandNumbers 249 = .ok (.iconst 0, 1) := by decide +kernel
theorem dX12_expandNumbers_250 : decode cX12_expandNumbers 250 = .ok (.putfield 60, 3) := by decide +kernel
theorem dX12_expandNumbers_253 : decode cX12_expandNumbers 253 = .ok (.iload_n 1, 1) := by decide +kernel
theorem dX12_expandNumbers_254 : decode cX12_expandNumbers 254 = .ok (.ireturn, 1) := by decide +kernel
set_option maxRecDepth 20000 in
theorem ggX12_removeWork_X12_isWork : GoodIn wsX12_removeWork wsX12_isWork := goodIn_r _ [6, 1, 7, 8, 5, 9, 24, 25, 26, 27, 28, 29, 30, 31, 32, 33, 34, 35, 36, 37, 38, 39, 40, 41, 42] (by decide +kernel) (by decide +kernel)
set_option maxRecDepth 20000 in
theorem gX12_removeWork_X12_isWork : GoodIn wsX12_removeWork (wsV RX12 116 RX12 yX12_isWork wsX12_isWork) := goodIn_app (goodIn_of _ (by decide +kernel)) ggX12_removeWork_X12_isWork
set_option maxRecDepth 20000 in
theorem ggX12_removeWork_X12_keeps : GoodIn wsX12_removeWork wsX12_keeps := goodIn_r _ [13, 14, 15, 1, 24, 25, 26, 27, 28, 29, 30, 31, 32, 33, 34, 35, 36, 37, 38, 39, 40, 41, 42] (by decide +kernel) (by decide +kernel)
set_option maxRecDepth 20000 in
theorem gX12_removeWork_X12_keeps : GoodIn wsX12_removeWork (wsV RX12 105 RX12 yX12_keeps wsX12_keeps) := goodIn_app (goodIn_of _ (by decide +kernel)) ggX12_removeWork_X12_keeps
set_option maxRecDepth 20000 in
theorem ggX12_removeWork_X12_cites : GoodIn wsX12_removeWork wsX12_cites := goodIn_r _ [19, 1, 24, 25, 26, 27, 28, 29, 30, 31, 32, 33, 34, 35, 36, 37, 38, 39, 40, 41, 42] (by decide +kernel) (by decide +kernel)
set_option maxRecDepth 20000 in
theorem gX12_removeWork_X12_cites : GoodIn wsX12_removeWork (wsV RX12 119 RX12 yX12_cites wsX12_cites) := goodIn_app (goodIn_of _ (by decide +kernel)) ggX12_removeWork_X12_cites
set_option maxRecDepth 20000 in
theorem ggX12_removeWork_X12_cited : GoodIn wsX12_removeWork wsX12_cited := goodIn_r _ [23, 1, 24, 25, 26, 27, 28, 29, 30, 31, 32, 33, 34, 35, 36, 37, 38, 39, 40, 41, 42] (by decide +kernel) (by decide +kernel)
set_option maxRecDepth 20000 in
theorem gX12_removeWork_X12_cited : GoodIn wsX12_removeWork (wsV RX12 122 RX12 yX12_cited wsX12_cited) := goodIn_app (goodIn_of _ (by decide +kernel)) ggX12_removeWork_X12_cited
theorem dX12_removeWork_0 : decode cX12_removeWork 0 = .ok (.aload_n 0, 1) := by decide +kernel
theorem dX12_removeWork_1 : decode cX12_removeWork 1 = .ok (.iload_n 1, 1) := by decide +kernel
theorem dX12_removeWork_2 : decode cX12_removeWork 2 = .ok (.invokevirtual 116, 3) := by decide +kernel
theorem dX12_removeWork_5 : decode cX12_removeWork 5 = .ok (.ifCond .ne 5, 3) := by decide +kernel
theorem dX12_removeWork_8 : decode cX12_removeWork 8 = .ok (.iconst (-1), 1) := by decide +kernel
theorem dX12_removeWork_9 : decode cX12_removeWork 9 = .ok (.ireturn, 1) := by decide +kernel
theorem dX12_removeWork_10 : decode cX12_removeWork 10 = .ok (.aload_n 0, 1) := by decide +kernel
theorem dX12_removeWork_11 : decode cX12_removeWork 11 = .ok (.invokevirtual 105, 3) := by decide +kernel
theorem dX12_removeWork_14 : decode cX12_removeWork 14 = .ok (.aload_n 0, 1) := by decide +kernel
theorem dX12_removeWork_15 : decode cX12_removeWork 15 = .ok (.getfield 7, 3) := by decide +kernel
theorem dX12_removeWork_18 : decode cX12_removeWork 18 = .ok (.iconst 0, 1) := by decide +kernel
theorem dX12_removeWork_19 : decode cX12_removeWork 19 = .ok (.dup2, 1) := by decide +kernel
theorem dX12_removeWork_20 : decode cX12_removeWork 20 = .ok (.iaload, 1) := by decide +kernel
theorem dX12_removeWork_21 : decode cX12_removeWork 21 = .ok (.iconst 1, 1) := by decide +kernel
theorem dX12_removeWork_22 : decode cX12_removeWork 22 = .ok (.isub, 1) := by decide +kernel
theorem dX12_removeWork_23 : decode cX12_removeWork 23 = .ok (.iastore, 1) := by decide +kernel
theorem dX12_removeWork_24 : decode cX12_removeWork 24 = .ok (.iconst 1, 1) := by decide +kernel
theorem dX12_removeWork_25 : decode cX12_removeWork 25 = .ok (.bipush 7, 2) := by decide +kernel
theorem dX12_removeWork_27 : decode cX12_removeWork 27 = .ok (.iload_n 1, 1) := by decide +kernel
theorem dX12_removeWork_28 : decode cX12_removeWork 28 = .ok (.imul, 1) := by decide +kernel
theorem dX12_removeWork_29 : decode cX12_removeWork 29 = .ok (.iadd, 1) := by decide +kernel
theorem dX12_removeWork_30 : decode cX12_removeWork 30 = .ok (.istore_n 2, 1) := by decide +kernel
theorem dX12_removeWork_31 : decode cX12_removeWork 31 = .ok (.iload_n 2, 1) := by decide +kernel
theorem dX12_removeWork_32 : decode cX12_removeWork 32 = .ok (.iconst 1, 1) := by decide +kernel
theorem dX12_removeWork_33 : decode cX12_removeWork 33 = .ok (.bipush 7, 2) := by decide +kernel
theorem dX12_removeWork_35 : decode cX12_removeWork 35 = .ok (.aload_n 0, 1) := by decide +kernel
theorem dX12_removeWork_36 : decode cX12_removeWork 36 = .ok (.getfield 7, 3) := by decide +kernel
theorem dX12_removeWork_39 : decode cX12_removeWork 39 = .ok (.iconst 0, 1) := by decide +kernel
theorem dX12_removeWork_40 : decode cX12_removeWork 40 = .ok (.iaload, 1) := by decide +kernel
theorem dX12_removeWork_41 : decode cX12_removeWork 41 = .ok (.imul, 1) := by decide +kernel
theorem dX12_removeWork_42 : decode cX12_removeWork 42 = .ok (.iadd, 1) := by decide +kernel
theorem dX12_removeWork_43 : decode cX12_removeWork 43 = .ok (.if_icmp .ge 24, 3) := by decide +kernel
theorem dX12_removeWork_46 : decode cX12_removeWork 46 = .ok (.aload_n 0, 1) := by decide +kernel
theorem dX12_removeWork_47 : decode cX12_removeWork 47 = .ok (.getfield 7, 3) := by decide +kernel
theorem dX12_removeWork_50 : decode cX12_removeWork 50 = .ok (.iload_n 2, 1) := by decide +kernel
theorem dX12_removeWork_51 : decode cX12_removeWork 51 = .ok (.aload_n 0, 1) := by decide +kernel
theorem dX12_removeWork_52 : decode cX12_removeWork 52 = .ok (.getfield 7, 3) := by decide +kernel
theorem dX12_removeWork_55 : decode cX12_removeWork 55 = .ok (.iload_n 2, 1) := by decide +kernel
theorem dX12_removeWork_56 : decode cX12_removeWork 56 = .ok (.bipush 7, 2) := by decide +kernel
theorem dX12_removeWork_58 : decode cX12_removeWork 58 = .ok (.iadd, 1) := by decide +kernel
theorem dX12_removeWork_59 : decode cX12_removeWork 59 = .ok (.iaload, 1) := by decide +kernel
theorem dX12_removeWork_60 : decode cX12_removeWork 60 = .ok (.iastore, 1) := by decide +kernel
theorem dX12_removeWork_61 : decode cX12_removeWork 61 = .ok (.iinc 2 1, 3) := by decide +kernel
theorem dX12_removeWork_64 : decode cX12_removeWork 64 = .ok (.goto (-33), 3) := by decide +kernel
theorem dX12_removeWork_67 : decode cX12_removeWork 67 = .ok (.iconst 0, 1) := by decide +kernel
theorem dX12_removeWork_68 : decode cX12_removeWork 68 = .ok (.istore_n 2, 1) := by decide +kernel
theorem dX12_removeWork_69 : decode cX12_removeWork 69 = .ok (.iconst 0, 1) := by decide +kernel
theorem dX12_removeWork_70 : decode cX12_removeWork 70 = .ok (.istore_n 3, 1) := by decide +kernel
theorem dX12_removeWork_71 : decode cX12_removeWork 71 = .ok (.iload_n 3, 1) := by decide +kernel
theorem dX12_removeWork_72 : decode cX12_removeWork 72 = .ok (.aload_n 0, 1) := by decide +kernel
theorem dX12_removeWork_73 : decode cX12_removeWork 73 = .ok (.getfield 7, 3) := by decide +kernel
theorem dX12_removeWork_76 : decode cX12_removeWork 76 = .ok (.bipush 70, 2) := by decide +kernel
theorem dX12_removeWork_78 : decode cX12_removeWork 78 = .ok (.iaload, 1) := by decide +kernel
theorem dX12_removeWork_79 : decode cX12_removeWork 79 = .ok (.if_icmp .ge 112, 3) := by decide +kernel
theorem dX12_removeWork_82 : decode cX12_removeWork 82 = .ok (.iconst 0, 1) := by decide +kernel
theorem dX12_removeWork_83 : decode cX12_removeWork 83 = .ok (.istore 4, 2) := by decide +kernel
theorem dX12_removeWork_85 : decode cX12_removeWork 85 = .ok (.aload_n 0, 1) := by decide +kernel
theorem dX12_removeWork_86 : decode cX12_removeWork 86 = .ok (.iload_n 3, 1) := by decide +kernel
theorem dX12_removeWork_87 : decode cX12_removeWork 87 = .ok (.invokevirtual 119, 3) := by decide +kernel
theorem dX12_removeWork_90 : decode cX12_removeWork 90 = .ok (.istore 5, 2) := by decide +kernel
theorem dX12_removeWork_92 : decode cX12_removeWork 92 = .ok (.iconst 0, 1) := by decide +kernel
theorem dX12_removeWork_93 : decode cX12_removeWork 93 = .ok (.istore 6, 2) := by decide +kernel
theorem dX12_removeWork_95 : decode cX12_removeWork 95 = .ok (.iload 6, 2) := by decide +kernel
theorem dX12_removeWork_97 : decode cX12_removeWork 97 = .ok (.iload 5, 2) := by decide +kernel
theorem dX12_removeWork_99 : decode cX12_removeWork 99 = .ok (.if_icmp .ge 59, 3) := by decide +kernel
theorem dX12_removeWork_102 : decode cX12_removeWork 102 = .ok (.aload_n 0, 1) := by decide +kernel
theorem dX12_removeWork_103 : decode cX12_removeWork 103 = .ok (.iload_n 3, 1) := by decide +kernel
theorem dX12_removeWork_104 : decode cX12_removeWork 104 = .ok (.iload 6, 2) := by decide +kernel
theorem dX12_removeWork_106 : decode cX12_removeWork 106 = .ok (.invokevirtual 122, 3) := by decide +kernel
theorem dX12_removeWork_109 : decode cX12_removeWork 109 = .ok (.istore 7, 2) := by decide +kernel
theorem dX12_removeWork_111 : decode cX12_removeWork 111 = .ok (.iload 7, 2) := by decide +kernel
theorem dX12_removeWork_113 : decode cX12_removeWork 113 = .ok (.iload_n 1, 1) := by decide +kernel
theorem dX12_removeWork_114 : decode cX12_removeWork 114 = .ok (.if_icmp .eq 38, 3) := by decide +kernel
theorem dX12_removeWork_117 : decode cX12_removeWork 117 = .ok (.aload_n 0, 1) := by decide +kernel
theorem dX12_removeWork_118 : decode cX12_removeWork 118 = .ok (.getfield 7, 3) := by decide +kernel
theorem dX12_removeWork_121 : decode cX12_removeWork 121 = .ok (.bipush 71, 2) := by decide +kernel
theorem dX12_removeWork_123 : decode cX12_removeWork 123 = .ok (.bipush 6, 2) := by decide +kernel
theorem dX12_removeWork_125 : decode cX12_removeWork 125 = .ok (.iload_n 2, 1) := by decide +kernel
theorem dX12_removeWork_126 : decode cX12_removeWork 126 = .ok (.imul, 1) := by decide +kernel
theorem dX12_removeWork_127 : decode cX12_removeWork 127 = .ok (.iadd, 1) := by decide +kernel
theorem dX12_removeWork_128 : decode cX12_removeWork 128 = .ok (.iconst 1, 1) := by decide +kernel
theorem dX12_removeWork_129 : decode cX12_removeWork 129 = .ok (.iadd, 1) := by decide +kernel
theorem dX12_removeWork_130 : decode cX12_removeWork 130 = .ok (.iload 4, 2) := by decide +kernel
theorem dX12_removeWork_132 : decode cX12_removeWork 132 = .ok (.iadd, 1) := by decide +kernel
theorem dX12_removeWork_133 : decode cX12_removeWork 133 = .ok (.iload 7, 2) := by decide +kernel
theorem dX12_removeWork_135 : decode cX12_removeWork 135 = .ok (.iload_n 1, 1) := by decide +kernel
theorem dX12_removeWork_136 : decode cX12_removeWork 136 = .ok (.if_icmp .le 10, 3) := by decide +kernel
theorem dX12_removeWork_139 : decode cX12_removeWork 139 = .ok (.iload 7, 2) := by decide +kernel
theorem dX12_removeWork_141 : decode cX12_removeWork 141 = .ok (.iconst 1, 1) := by decide +kernel
theorem dX12_removeWork_142 : decode cX12_removeWork 142 = .ok (.isub, 1) := by decide +kernel
theorem dX12_removeWork_143 : decode cX12_removeWork 143 = .ok (.goto 5, 3) := by decide +kernel
theorem dX12_removeWork_146 : decode cX12_removeWork 146 = .ok (.iload 7, 2) := by decide +kernel
theorem dX12_removeWork_148 : decode cX12_removeWork 148 = .ok (.iastore, 1) := by decide +kernel
theorem dX12_removeWork_149 : decode cX12_removeWork 149 = .ok (.iinc 4 1, 3) := by decide +kernel
theorem dX12_removeWork_152 : decode cX12_removeWork 152 = .ok (.iinc 6 1, 3) := by decide +kernel
theorem dX12_removeWork_155 : decode cX12_removeWork 155 = .ok (.goto (-60), 3) := by decide +kernel
theorem dX12_removeWork_158 : decode cX12_removeWork 158 = .ok (.aload_n 0, 1) := by decide +kernel
theorem dX12_removeWork_159 : decode cX12_removeWork 159 = .ok (.getfield 7, 3) := by decide +kernel
theorem dX12_removeWork_162 : decode cX12_removeWork 162 = .ok (.bipush 71, 2) := by decide +kernel
theorem dX12_removeWork_164 : decode cX12_removeWork 164 = .ok (.bipush 6, 2) := by decide +kernel
theorem dX12_removeWork_166 : decode cX12_removeWork 166 = .ok (.iload_n 2, 1) := by decide +kernel
theorem dX12_removeWork_167 : decode cX12_removeWork 167 = .ok (.imul, 1) := by decide +kernel
theorem dX12_removeWork_168 : decode cX12_removeWork 168 = .ok (.iadd, 1) := by decide +kernel
theorem dX12_removeWork_169 : decode cX12_removeWork 169 = .ok (.iload 4, 2) := by decide +kernel
theorem dX12_removeWork_171 : decode cX12_removeWork 171 = .ok (.iastore, 1) := by decide +kernel
theorem dX12_removeWork_172 : decode cX12_removeWork 172 = .ok (.iload_n 2, 1) := by decide +kernel
theorem dX12_removeWork_173 : decode cX12_removeWork 173 = .ok (.iload 4, 2) := by decide +kernel
theorem dX12_removeWork_175 : decode cX12_removeWork 175 = .ok (.ifCond .le 7, 3) := by decide +kernel
theorem dX12_removeWork_178 : decode cX12_removeWork 178 = .ok (.iconst 1, 1) := by decide +kernel
theorem dX12_removeWork_179 : decode cX12_removeWork 179 = .ok (.goto 4, 3) := by decide +kernel
theorem dX12_removeWork_182 : decode cX12_removeWork 182 = .ok (.iconst 0, 1) := by decide +kernel
theorem dX12_removeWork_183 : decode cX12_removeWork 183 = .ok (.iadd, 1) := by decide +kernel
theorem dX12_removeWork_184 : decode cX12_removeWork 184 = .ok (.istore_n 2, 1) := by decide +kernel
theorem dX12_removeWork_185 : decode cX12_removeWork 185 = .ok (.iinc 3 1, 3) := by decide +kernel
theorem dX12_removeWork_188 : decode cX12_removeWork 188 = .ok (.goto (-117), 3) := by decide +kernel
theorem dX12_removeWork_191 : decode cX12_removeWork 191 = .ok (.aload_n 0, 1) := by decide +kernel
theorem dX12_removeWork_192 : decode cX12_removeWork 192 = .ok (.getfield 7, 3) := by decide +kernel
theorem dX12_removeWork_195 : decode cX12_removeWork 195 = .ok (.bipush 70, 2) := by decide +kernel
theorem dX12_removeWork_197 : decode cX12_removeWork 197 = .ok (.iload_n 2, 1) := by decide +kernel
theorem dX12_removeWork_198 : decode cX12_removeWork 198 = .ok (.iastore, 1) := by decide +kernel
theorem dX12_removeWork_199 : decode cX12_removeWork 199 = .ok (.iload_n 2, 1) := by decide +kernel
theorem dX12_removeWork_200 : decode cX12_removeWork 200 = .ok (.ireturn, 1) := by decide +kernel
set_option maxRecDepth 20000 in
theorem ggX12_setYear_X12_isWork : GoodIn wsX12_setYear wsX12_isWork := goodIn_r _ [6, 7, 8, 9, 5, 10, 21, 22, 23, 24, 25, 26, 27, 28, 29, 30, 31, 32, 33, 34, 35, 36, 37, 38, 39] (by decide +kernel) (by decide +kernel)
set_option maxRecDepth 20000 in
theorem gX12_setYear_X12_isWork : GoodIn wsX12_setYear (wsV RX12 116 RX12 yX12_isWork wsX12_isWork) := goodIn_app (goodIn_of _ (by decide +kernel)) ggX12_setYear_X12_isWork
set_option maxRecDepth 20000 in
theorem ggX12_setYear_X12_in : GoodIn wsX12_setYear wsX12_in := goodIn_r _ [10] (by decide +kernel) (by decide +kernel)
set_option maxRecDepth 20000 in
theorem gX12_setYear_X12_in : GoodIn wsX12_setYear (va_wsS RX12 50 yX12_in wsX12_in) := goodIn_app (goodIn_of _ (by decide +kernel)) ggX12_setYear_X12_in
set_option maxRecDepth 20000 in
theorem ggX12_setYear_X12_sets : GoodIn wsX12_setYear wsX12_sets := goodIn_r _ [14, 7, 15, 16, 17, 5, 18, 19, 20, 21, 22, 23, 24, 25, 26, 27, 28, 29, 30, 31, 32, 33, 34, 35, 36, 37, 38, 39] (by decide +kernel) (by decide +kernel)
set_option maxRecDepth 20000 in
theorem gX12_setYear_X12_sets : GoodIn wsX12_setYear (wsV RX12 128 RX12 yX12_sets wsX12_sets) := goodIn_app (goodIn_of _ (by decide +kernel)) ggX12_setYear_X12_sets
theorem dX12_setYear_0 : decode cX12_setYear 0 = .ok (.aload_n 0, 1) := by decide +kernel
theorem dX12_setYear_1 : decode cX12_setYear 1 = .ok (.iload_n 1, 1) := by decide +kernel
theorem dX12_setYear_2 : decode cX12_setYear 2 = .ok (.invokevirtual 116, 3) := by decide +kernel
theorem dX12_setYear_5 : decode cX12_setYear 5 = .ok (.ifCond .eq 15, 3) := by decide +kernel
theorem dX12_setYear_8 : decode cX12_setYear 8 = .ok (.iload_n 2, 1) := by decide +kernel
theorem dX12_setYear_9 : decode cX12_setYear 9 = .ok (.i2l, 1) := by decide +kernel
theorem dX12_setYear_10 : decode cX12_setYear 10 = .ok (.lconst 0, 1) := by decide +kernel
theorem dX12_setYear_11 : decode cX12_setYear 11 = .ok (.ldc2_w 126, 3) := by decide +kernel
theorem dX12_setYear_14 : decode cX12_setYear 14 = .ok (.invokestatic 50, 3) := by decide +kernel
theorem dX12_setYear_17 : decode cX12_setYear 17 = .ok (.ifCond .ne 5, 3) := by decide +kernel
theorem dX12_setYear_20 : decode cX12_setYear 20 = .ok (.iconst (-1), 1) := by decide +kernel
theorem dX12_setYear_21 : decode cX12_setYear 21 = .ok (.ireturn, 1) := by decide +kernel
theorem dX12_setYear_22 : decode cX12_setYear 22 = .ok (.aload_n 0, 1) := by decide +kernel
theorem dX12_setYear_23 : decode cX12_setYear 23 = .ok (.iconst 1, 1) := by decide +kernel
theorem dX12_setYear_24 : decode cX12_setYear 24 = .ok (.bipush 7, 2) := by decide +kernel
theorem dX12_setYear_26 : decode cX12_setYear 26 = .ok (.iload_n 1, 1) := by decide +kernel
theorem dX12_setYear_27 : decode cX12_setYear 27 = .ok (.imul, 1) := by decide +kernel
theorem dX12_setYear_28 : decode cX12_setYear 28 = .ok (.iadd, 1) := by decide +kernel
theorem dX12_setYear_29 : decode cX12_setYear 29 = .ok (.iconst 5, 1) := by decide +kernel
theorem dX12_setYear_30 : decode cX12_setYear 30 = .ok (.iadd, 1) := by decide +kernel
theorem dX12_setYear_31 : decode cX12_setYear 31 = .ok (.iload_n 2, 1) := by decide +kernel
theorem dX12_setYear_32 : decode cX12_setYear 32 = .ok (.invokevirtual 128, 3) := by decide +kernel
theorem dX12_setYear_35 : decode cX12_setYear 35 = .ok (.ireturn, 1) := by decide +kernel
set_option maxRecDepth 20000 in
theorem ggX12_sets_X12_keeps : GoodIn wsX12_sets wsX12_keeps := goodIn_r _ [6, 7, 8, 1, 9, 10, 11, 12, 13, 14, 15, 16, 17, 18, 19, 20, 21, 22, 23, 24, 25, 26, 27] (by decide +kernel) (by decide +kernel)
set_option maxRecDepth 20000 in
theorem gX12_sets_X12_keeps : GoodIn wsX12_sets (wsV RX12 105 RX12 yX12_keeps wsX12_keeps) := goodIn_app (goodIn_of _ (by decide +kernel)) ggX12_sets_X12_keeps
theorem dX12_sets_0 : decode cX12_sets 0 = .ok (.aload_n 0, 1) := by decide +kernel
theorem dX12_sets_1 : decode cX12_sets 1 = .ok (.invokevirtual 105, 3) := by decide +kernel
theorem dX12_sets_4 : decode cX12_sets 4 = .ok (.aload_n 0, 1) := by decide +kernel
theorem dX12_sets_5 : decode cX12_sets 5 = .ok (.getfield 7, 3) := by decide +kernel
theorem dX12_sets_8 : decode cX12_sets 8 = .ok (.iload_n 1, 1) := by decide +kernel
theorem dX12_sets_9 : decode cX12_sets 9 = .ok (.iaload, 1) := by decide +kernel
theorem dX12_sets_10 : decode cX12_sets 10 = .ok (.istore_n 3, 1) := by decide +kernel
theorem dX12_sets_11 : decode cX12_sets 11 = .ok (.aload_n 0, 1) := by decide +kernel
theorem dX12_sets_12 : decode cX12_sets 12 = .ok (.getfield 7, 3) := by decide +kernel
theorem dX12_sets_15 : decode cX12_sets 15 = .ok (.iload_n 1, 1) := by decide +kernel
theorem dX12_sets_16 : decode cX12_sets 16 = .ok (.iload_n 2, 1) := by decide +kernel
theorem dX12_sets_17 : decode cX12_sets 17 = .ok (.iastore, 1) := by decide +kernel
theorem dX12_sets_18 : decode cX12_sets 18 = .ok (.iload_n 3, 1) := by decide +kernel
theorem dX12_sets_19 : decode cX12_sets 19 = .ok (.ireturn, 1) := by decide +kernel
set_option maxRecDepth 20000 in
theorem ggX12_setStyle_X12_in : GoodIn wsX12_setStyle wsX12_in := goodIn_r _ [5] (by decide +kernel) (by decide +kernel)
set_option maxRecDepth 20000 in
theorem gX12_setStyle_X12_in : GoodIn wsX12_setStyle (va_wsS RX12 50 yX12_in wsX12_in) := goodIn_app (goodIn_of _ (by decide +kernel)) ggX12_setStyle_X12_in
set_option maxRecDepth 20000 in
theorem ggX12_setStyle_X12_sets : GoodIn wsX12_setStyle wsX12_sets := goodIn_r _ [9, 10, 11, 12, 13, 4, 14, 15, 16, 17, 18, 19, 20, 21, 22, 23, 24, 25, 26, 27, 28, 29, 30, 31, 32, 33, 34, 35] (by decide +kernel) (by decide +kernel)
set_option maxRecDepth 20000 in
theorem gX12_setStyle_X12_sets : GoodIn wsX12_setStyle (wsV RX12 128 RX12 yX12_sets wsX12_sets) := goodIn_app (goodIn_of _ (by decide +kernel)) ggX12_setStyle_X12_sets
theorem dX12_setStyle_0 : decode cX12_setStyle 0 = .ok (.iload_n 1, 1) := by decide +kernel
theorem dX12_setStyle_1 : decode cX12_setStyle 1 = .ok (.i2l, 1) := by decide +kernel
theorem dX12_setStyle_2 : decode cX12_setStyle 2 = .ok (.lconst 0, 1) := by decide +kernel
theorem dX12_setStyle_3 : decode cX12_setStyle 3 = .ok (.ldc2_w 131, 3) := by decide +kernel
theorem dX12_setStyle_6 : decode cX12_setStyle 6 = .ok (.invokestatic 50, 3) := by decide +kernel
theorem dX12_setStyle_9 : decode cX12_setStyle 9 = .ok (.ifCond .eq 13, 3) := by decide +kernel
theorem dX12_setStyle_12 : decode cX12_setStyle 12 = .ok (.aload_n 0, 1) := by decide +kernel
theorem dX12_setStyle_13 : decode cX12_setStyle 13 = .ok (.bipush 57, 2) := by decide +kernel
theorem dX12_setStyle_15 : decode cX12_setStyle 15 = .ok (.iload_n 1, 1) := by decide +kernel
theorem dX12_setStyle_16 : decode cX12_setStyle 16 = .ok (.invokevirtual 128, 3) := by decide +kernel
theorem dX12_setStyle_19 : decode cX12_setStyle 19 = .ok (.goto 4, 3) := by decide +kernel
theorem dX12_setStyle_22 : decode cX12_setStyle 22 = .ok (.iconst (-1), 1) := by decide +kernel
theorem dX12_setStyle_23 : decode cX12_setStyle 23 = .ok (.ireturn, 1) := by decide +kernel
set_option maxRecDepth 20000 in
theorem ggX12_setEtAl_X12_in : GoodIn wsX12_setEtAl wsX12_in := goodIn_r _ [7] (by decide +kernel) (by decide +kernel)
set_option maxRecDepth 20000 in
theorem gX12_setEtAl_X12_in : GoodIn wsX12_setEtAl (va_wsS RX12 50 yX12_in wsX12_in) := goodIn_app (goodIn_of _ (by decide +kernel)) ggX12_setEtAl_X12_in
set_option maxRecDepth 20000 in
theorem ggX12_setEtAl_X12_sets : GoodIn wsX12_setEtAl wsX12_sets := goodIn_r _ [11, 3, 12, 13, 14, 6, 15, 16, 17, 18, 19, 20, 21, 22, 23, 24, 25, 26, 27, 28, 29, 30, 31, 32, 33, 34, 35, 36] (by decide +kernel) (by decide +kernel)
set_option maxRecDepth 20000 in
theorem gX12_setEtAl_X12_sets : GoodIn wsX12_setEtAl (wsV RX12 128 RX12 yX12_sets wsX12_sets) := goodIn_app (goodIn_of _ (by decide +kernel)) ggX12_setEtAl_X12_sets
theorem dX12_setEtAl_0 : decode cX12_setEtAl 0 = .ok (.iload_n 1, 1) := by decide +kernel
theorem dX12_setEtAl_1 : decode cX12_setEtAl 1 = .ok (.i2l, 1) := by decide +kernel
theorem dX12_setEtAl_2 : decode cX12_setEtAl 2 = .ok (.lconst 0, 1) := by decide +kernel
theorem dX12_setEtAl_3 : decode cX12_setEtAl 3 = .ok (.ldc2_w 133, 3) := by decide +kernel
theorem dX12_setEtAl_6 : decode cX12_setEtAl 6 = .ok (.invokestatic 50, 3) := by decide +kernel
theorem dX12_setEtAl_9 : decode cX12_setEtAl 9 = .ok (.ifCond .eq 15, 3) := by decide +kernel
theorem dX12_setEtAl_12 : decode cX12_setEtAl 12 = .ok (.iload_n 2, 1) := by decide +kernel
theorem dX12_setEtAl_13 : decode cX12_setEtAl 13 = .ok (.i2l, 1) := by decide +kernel
theorem dX12_setEtAl_14 : decode cX12_setEtAl 14 = .ok (.lconst 1, 1) := by decide +kernel
theorem dX12_setEtAl_15 : decode cX12_setEtAl 15 = .ok (.ldc2_w 135, 3) := by decide +kernel
theorem dX12_setEtAl_18 : decode cX12_setEtAl 18 = .ok (.invokestatic 50, 3) := by decide +kernel
theorem dX12_setEtAl_21 : decode cX12_setEtAl 21 = .ok (.ifCond .ne 5, 3) := by decide +kernel
theorem dX12_setEtAl_24 : decode cX12_setEtAl 24 = .ok (.iconst (-1), 1) := by decide +kernel
theorem dX12_setEtAl_25 : decode cX12_setEtAl 25 = .ok (.ireturn, 1) := by decide +kernel
theorem dX12_setEtAl_26 : decode cX12_setEtAl 26 = .ok (.bipush 10, 2) := by decide +kernel
theorem dX12_setEtAl_28 : decode cX12_setEtAl 28 = .ok (.aload_n 0, 1) := by decide +kernel
theorem dX12_setEtAl_29 : decode cX12_setEtAl 29 = .ok (.bipush 58, 2) := by decide +kernel
theorem dX12_setEtAl_31 : decode cX12_setEtAl 31 = .ok (.iload_n 1, 1) := by decide +kernel
theorem dX12_setEtAl_32 : decode cX12_setEtAl 32 = .ok (.invokevirtual 128, 3) := by decide +kernel
theorem dX12_setEtAl_35 : decode cX12_setEtAl 35 = .ok (.imul, 1) := by decide +kernel
theorem dX12_setEtAl_36 : decode cX12_setEtAl 36 = .ok (.aload_n 0, 1) := by decide +kernel
theorem dX12_setEtAl_37 : decode cX12_setEtAl 37 = .ok (.getfield 7, 3) := by decide +kernel
theorem dX12_setEtAl_40 : decode cX12_setEtAl 40 = .ok (.bipush 59, 2) := by decide +kernel
theorem dX12_setEtAl_42 : decode cX12_setEtAl 42 = .ok (.iaload, 1) := by decide +kernel
theorem dX12_setEtAl_43 : decode cX12_setEtAl 43 = .ok (.iadd, 1) := by decide +kernel
theorem dX12_setEtAl_44 : decode cX12_setEtAl 44 = .ok (.istore_n 3, 1) := by decide +kernel
theorem dX12_setEtAl_45 : decode cX12_setEtAl 45 = .ok (.aload_n 0, 1) := by decide +kernel
theorem dX12_setEtAl_46 : decode cX12_setEtAl 46 = .ok (.getfield 7, 3) := by decide +kernel
theorem dX12_setEtAl_49 : decode cX12_setEtAl 49 = .ok (.bipush 59, 2) := by decide +kernel
theorem dX12_setEtAl_51 : decode cX12_setEtAl 51 = .ok (.iload_n 2, 1) := by decide +kernel
theorem dX12_setEtAl_52 : decode cX12_setEtAl 52 = .ok (.iastore, 1) := by decide +kernel
theorem dX12_setEtAl_53 : decode cX12_setEtAl 53 = .ok (.iload_n 3, 1) := by decide +kernel
theorem dX12_setEtAl_54 : decode cX12_setEtAl 54 = .ok (.ireturn, 1) := by decide +kernel
set_option maxRecDepth 20000 in
theorem ggX12_setDisambiguation_X12_in : GoodIn wsX12_setDisambiguation wsX12_in := goodIn_r _ [5] (by decide +kernel) (by decide +kernel)
set_option maxRecDepth 20000 in
theorem gX12_setDisambiguation_X12_in : GoodIn wsX12_setDisambiguation (va_wsS RX12 50 yX12_in wsX12_in) := goodIn_app (goodIn_of _ (by decide +kernel)) ggX12_setDisambiguation_X12_in
set_option maxRecDepth 20000 in
theorem ggX12_setDisambiguation_X12_sets : GoodIn wsX12_setDisambiguation wsX12_sets := goodIn_r _ [9, 10, 11, 12, 13, 4, 14, 15, 16, 17, 18, 19, 20, 21, 22, 23, 24, 25, 26, 27, 28, 29, 30, 31, 32, 33, 34, 35] (by decide +kernel) (by decide +kernel)
set_option maxRecDepth 20000 in
theorem gX12_setDisambiguation_X12_sets : GoodIn wsX12_setDisambiguation (wsV RX12 128 RX12 yX12_sets wsX12_sets) := goodIn_app (goodIn_of _ (by decide +kernel)) ggX12_setDisambiguation_X12_sets
theorem dX12_setDisambiguation_0 : decode cX12_setDisambiguation 0 = .ok (.iload_n 1, 1) := by decide +kernel
theorem dX12_setDisambiguation_1 : decode cX12_setDisambiguation 1 = .ok (.i2l, 1) := by decide +kernel
theorem dX12_setDisambiguation_2 : decode cX12_setDisambiguation 2 = .ok (.lconst 0, 1) := by decide +kernel
theorem dX12_setDisambiguation_3 : decode cX12_setDisambiguation 3 = .ok (.ldc2_w 137, 3) := by decide +kernel
theorem dX12_setDisambiguation_6 : decode cX12_setDisambiguation 6 = .ok (.invokestatic 50, 3) := by decide +kernel
theorem dX12_setDisambiguation_9 : decode cX12_setDisambiguation 9 = .ok (.ifCond .eq 13, 3) := by decide +kernel
theorem dX12_setDisambiguation_12 : decode cX12_setDisambiguation 12 = .ok (.aload_n 0, 1) := by decide +kernel
theorem dX12_setDisambiguation_13 : decode cX12_setDisambiguation 13 = .ok (.bipush 60, 2) := by decide +kernel
theorem dX12_setDisambiguation_15 : decode cX12_setDisambiguation 15 = .ok (.iload_n 1, 1) := by decide +kernel
theorem dX12_setDisambiguation_16 : decode cX12_setDisambiguation 16 = .ok (.invokevirtual 128, 3) := by decide +kernel
theorem dX12_setDisambiguation_19 : decode cX12_setDisambiguation 19 = .ok (.goto 4, 3) := by decide +kernel
theorem dX12_setDisambiguation_22 : decode cX12_setDisambiguation 22 = .ok (.iconst (-1), 1) := by decide +kernel
theorem dX12_setDisambiguation_23 : decode cX12_setDisambiguation 23 = .ok (.ireturn, 1) := by decide +kernel
set_option maxRecDepth 20000 in
theorem ggX12_setCollapseLevel_X12_in : GoodIn wsX12_setCollapseLevel wsX12_in := goodIn_r _ [5] (by decide +kernel) (by decide +kernel)
set_option maxRecDepth 20000 in
theorem gX12_setCollapseLevel_X12_in : GoodIn wsX12_setCollapseLevel (va_wsS RX12 50 yX12_in wsX12_in) := goodIn_app (goodIn_of _ (by decide +kernel)) ggX12_setCollapseLevel_X12_in
set_option maxRecDepth 20000 in
theorem ggX12_setCollapseLevel_X12_sets : GoodIn wsX12_setCollapseLevel wsX12_sets := goodIn_r _ [9, 10, 11, 12, 13, 4, 14, 15, 16, 17, 18, 19, 20, 21, 22, 23, 24, 25, 26, 27, 28, 29, 30, 31, 32, 33, 34, 35] (by decide +kernel) (by decide +kernel)
set_option maxRecDepth 20000 in
theorem gX12_setCollapseLevel_X12_sets : GoodIn wsX12_setCollapseLevel (wsV RX12 128 RX12 yX12_sets wsX12_sets) := goodIn_app (goodIn_of _ (by decide +kernel)) ggX12_setCollapseLevel_X12_sets
theorem dX12_setCollapseLevel_0 : decode cX12_setCollapseLevel 0 = .ok (.iload_n 1, 1) := by decide +kernel
theorem dX12_setCollapseLevel_1 : decode cX12_setCollapseLevel 1 = .ok (.i2l, 1) := by decide +kernel
theorem dX12_setCollapseLevel_2 : decode cX12_setCollapseLevel 2 = .ok (.lconst 0, 1) := by decide +kernel
theorem dX12_setCollapseLevel_3 : decode cX12_setCollapseLevel 3 = .ok (.ldc2_w 131, 3) := by decide +kernel
theorem dX12_setCollapseLevel_6 : decode cX12_setCollapseLevel 6 = .ok (.invokestatic 50, 3) := by decide +kernel
theorem dX12_setCollapseLevel_9 : decode cX12_setCollapseLevel 9 = .ok (.ifCond .eq 13, 3) := by decide +kernel
theorem dX12_setCollapseLevel_12 : decode cX12_setCollapseLevel 12 = .ok (.aload_n 0, 1) := by decide +kernel
theorem dX12_setCollapseLevel_13 : decode cX12_setCollapseLevel 13 = .ok (.bipush 61, 2) := by decide +kernel
theorem dX12_setCollapseLevel_15 : decode cX12_setCollapseLevel 15 = .ok (.iload_n 1, 1) := by decide +kernel
theorem dX12_setCollapseLevel_16 : decode cX12_setCollapseLevel 16 = .ok (.invokevirtual 128, 3) := by decide +kernel
theorem dX12_setCollapseLevel_19 : decode cX12_setCollapseLevel 19 = .ok (.goto 4, 3) := by decide +kernel
theorem dX12_setCollapseLevel_22 : decode cX12_setCollapseLevel 22 = .ok (.iconst (-1), 1) := by decide +kernel
theorem dX12_setCollapseLevel_23 : decode cX12_setCollapseLevel 23 = .ok (.ireturn, 1) := by decide +kernel
set_option maxRecDepth 20000 in
theorem ggX12_setSortSlot_X12_in : GoodIn wsX12_setSortSlot wsX12_in := goodIn_r _ [7] (by decide +kernel) (by decide +kernel)
set_option maxRecDepth 20000 in
theorem gX12_setSortSlot_X12_in : GoodIn wsX12_setSortSlot (va_wsS RX12 50 yX12_in wsX12_in) := goodIn_app (goodIn_of _ (by decide +kernel)) ggX12_setSortSlot_X12_in
set_option maxRecDepth 20000 in
theorem ggX12_setSortSlot_X12_sets : GoodIn wsX12_setSortSlot wsX12_sets := goodIn_r _ [11, 3, 12, 13, 14, 6, 15, 16, 17, 18, 19, 20, 21, 22, 23, 24, 25, 26, 27, 28, 29, 30, 31, 32, 33, 34, 35, 36] (by decide +kernel) (by decide +kernel)
set_option maxRecDepth 20000 in
theorem gX12_setSortSlot_X12_sets : GoodIn wsX12_setSortSlot (wsV RX12 128 RX12 yX12_sets wsX12_sets) := goodIn_app (goodIn_of _ (by decide +kernel)) ggX12_setSortSlot_X12_sets
theorem dX12_setSortSlot_0 : decode cX12_setSortSlot 0 = .ok (.iload_n 1, 1) := by decide +kernel
theorem dX12_setSortSlot_1 : decode cX12_setSortSlot 1 = .ok (.i2l, 1) := by decide +kernel
theorem dX12_setSortSlot_2 : decode cX12_setSortSlot 2 = .ok (.lconst 0, 1) := by decide +kernel
theorem dX12_setSortSlot_3 : decode cX12_setSortSlot 3 = .ok (.ldc2_w 131, 3) := by decide +kernel
theorem dX12_setSortSlot_6 : decode cX12_setSortSlot 6 = .ok (.invokestatic 50, 3) := by decide +kernel
theorem dX12_setSortSlot_9 : decode cX12_setSortSlot 9 = .ok (.ifCond .eq 25, 3) := by decide +kernel
theorem dX12_setSortSlot_12 : decode cX12_setSortSlot 12 = .ok (.iload_n 2, 1) := by decide +kernel
theorem dX12_setSortSlot_13 : decode cX12_setSortSlot 13 = .ok (.i2l, 1) := by decide +kernel
theorem dX12_setSortSlot_14 : decode cX12_setSortSlot 14 = .ok (.lconst 0, 1) := by decide +kernel
theorem dX12_setSortSlot_15 : decode cX12_setSortSlot 15 = .ok (.ldc2_w 135, 3) := by decide +kernel
theorem dX12_setSortSlot_18 : decode cX12_setSortSlot 18 = .ok (.invokestatic 50, 3) := by decide +kernel
theorem dX12_setSortSlot_21 : decode cX12_setSortSlot 21 = .ok (.ifCond .eq 13, 3) := by decide +kernel
theorem dX12_setSortSlot_24 : decode cX12_setSortSlot 24 = .ok (.iload_n 3, 1) := by decide +kernel
theorem dX12_setSortSlot_25 : decode cX12_setSortSlot 25 = .ok (.i2l, 1) := by decide +kernel
theorem dX12_setSortSlot_26 : decode cX12_setSortSlot 26 = .ok (.lconst 0, 1) := by decide +kernel
theorem dX12_setSortSlot_27 : decode cX12_setSortSlot 27 = .ok (.lconst 1, 1) := by decide +kernel
theorem dX12_setSortSlot_28 : decode cX12_setSortSlot 28 = .ok (.invokestatic 50, 3) := by decide +kernel
theorem dX12_setSortSlot_31 : decode cX12_setSortSlot 31 = .ok (.ifCond .ne 5, 3) := by decide +kernel
theorem dX12_setSortSlot_34 : decode cX12_setSortSlot 34 = .ok (.iconst (-1), 1) := by decide +kernel
theorem dX12_setSortSlot_35 : decode cX12_setSortSlot 35 = .ok (.ireturn, 1) := by decide +kernel
theorem dX12_setSortSlot_36 : decode cX12_setSortSlot 36 = .ok (.iconst 2, 1) := by decide +kernel
theorem dX12_setSortSlot_37 : decode cX12_setSortSlot 37 = .ok (.aload_n 0, 1) := by decide +kernel
theorem dX12_setSortSlot_38 : decode cX12_setSortSlot 38 = .ok (.bipush 64, 2) := by decide +kernel
theorem dX12_setSortSlot_40 : decode cX12_setSortSlot 40 = .ok (.iconst 2, 1) := by decide +kernel
theorem dX12_setSortSlot_41 : decode cX12_setSortSlot 41 = .ok (.iload_n 1, 1) := by decide +kernel
theorem dX12_setSortSlot_42 : decode cX12_setSortSlot 42 = .ok (.imul, 1) := by decide +kernel
theorem dX12_setSortSlot_43 : decode cX12_setSortSlot 43 = .ok (.iadd, 1) := by decide +kernel
theorem dX12_setSortSlot_44 : decode cX12_setSortSlot 44 = .ok (.iload_n 2, 1) := by decide +kernel
theorem dX12_setSortSlot_45 : decode cX12_setSortSlot 45 = .ok (.invokevirtual 128, 3) := by decide +kernel
theorem dX12_setSortSlot_48 : decode cX12_setSortSlot 48 = .ok (.imul, 1) := by decide +kernel
theorem dX12_setSortSlot_49 : decode cX12_setSortSlot 49 = .ok (.aload_n 0, 1) := by decide +kernel
theorem dX12_setSortSlot_50 : decode cX12_setSortSlot 50 = .ok (.getfield 7, 3) := by decide +kernel
theorem dX12_setSortSlot_53 : decode cX12_setSortSlot 53 = .ok (.bipush 64, 2) := by decide +kernel
theorem dX12_setSortSlot_55 : decode cX12_setSortSlot 55 = .ok (.iconst 2, 1) := by decide +kernel
theorem dX12_setSortSlot_56 : decode cX12_setSortSlot 56 = .ok (.iload_n 1, 1) := by decide +kernel
theorem dX12_setSortSlot_57 : decode cX12_setSortSlot 57 = .ok (.imul, 1) := by decide +kernel
theorem dX12_setSortSlot_58 : decode cX12_setSortSlot 58 = .ok (.iadd, 1) := by decide +kernel
theorem dX12_setSortSlot_59 : decode cX12_setSortSlot 59 = .ok (.iconst 1, 1) := by decide +kernel
theorem dX12_setSortSlot_60 : decode cX12_setSortSlot 60 = .ok (.iadd, 1) := by decide +kernel
theorem dX12_setSortSlot_61 : decode cX12_setSortSlot 61 = .ok (.iaload, 1) := by decide +kernel
theorem dX12_setSortSlot_62 : decode cX12_setSortSlot 62 = .ok (.iadd, 1) := by decide +kernel
theorem dX12_setSortSlot_63 : decode cX12_setSortSlot 63 = .ok (.istore 4, 2) := by decide +kernel
theorem dX12_setSortSlot_65 : decode cX12_setSortSlot 65 = .ok (.aload_n 0, 1) := by decide +kernel
theorem dX12_setSortSlot_66 : decode cX12_setSortSlot 66 = .ok (.getfield 7, 3) := by decide +kernel
theorem dX12_setSortSlot_69 : decode cX12_setSortSlot 69 = .ok (.bipush 64, 2) := by decide +kernel
theorem dX12_setSortSlot_71 : decode cX12_setSortSlot 71 = .ok (.iconst 2, 1) := by decide +kernel
theorem dX12_setSortSlot_72 : decode cX12_setSortSlot 72 = .ok (.iload_n 1, 1) := by decide +kernel
theorem dX12_setSortSlot_73 : decode cX12_setSortSlot 73 = .ok (.imul, 1) := by decide +kernel
theorem dX12_setSortSlot_74 : decode cX12_setSortSlot 74 = .ok (.iadd, 1) := by decide +kernel
theorem dX12_setSortSlot_75 : decode cX12_setSortSlot 75 = .ok (.iconst 1, 1) := by decide +kernel
theorem dX12_setSortSlot_76 : decode cX12_setSortSlot 76 = .ok (.iadd, 1) := by decide +kernel
theorem dX12_setSortSlot_77 : decode cX12_setSortSlot 77 = .ok (.iload_n 3, 1) := by decide +kernel
theorem dX12_setSortSlot_78 : decode cX12_setSortSlot 78 = .ok (.iastore, 1) := by decide +kernel
theorem dX12_setSortSlot_79 : decode cX12_setSortSlot 79 = .ok (.iload 4, 2) := by decide +kernel
theorem dX12_setSortSlot_81 : decode cX12_setSortSlot 81 = .ok (.ireturn, 1) := by decide +kernel
set_option maxRecDepth 20000 in
theorem ggX12_setNumbering_X12_in : GoodIn wsX12_setNumbering wsX12_in := goodIn_r _ [4] (by decide +kernel) (by decide +kernel)
set_option maxRecDepth 20000 in
theorem gX12_setNumbering_X12_in : GoodIn wsX12_setNumbering (va_wsS RX12 50 yX12_in wsX12_in) := goodIn_app (goodIn_of _ (by decide +kernel)) ggX12_setNumbering_X12_in
set_option maxRecDepth 20000 in
theorem ggX12_setNumbering_X12_sets : GoodIn wsX12_setNumbering wsX12_sets := goodIn_r _ [8, 9, 10, 11, 12, 3, 13, 14, 15, 16, 17, 18, 19, 20, 21, 22, 23, 24, 25, 26, 27, 28, 29, 30, 31, 32, 33, 34] (by decide +kernel) (by decide +kernel)
set_option maxRecDepth 20000 in
theorem gX12_setNumbering_X12_sets : GoodIn wsX12_setNumbering (wsV RX12 128 RX12 yX12_sets wsX12_sets) := goodIn_app (goodIn_of _ (by decide +kernel)) ggX12_setNumbering_X12_sets
theorem dX12_setNumbering_0 : decode cX12_setNumbering 0 = .ok (.iload_n 1, 1) := by decide +kernel
theorem dX12_setNumbering_1 : decode cX12_setNumbering 1 = .ok (.i2l, 1) := by decide +kernel
theorem dX12_setNumbering_2 : decode cX12_setNumbering 2 = .ok (.lconst 0, 1) := by decide +kernel
theorem dX12_setNumbering_3 : decode cX12_setNumbering 3 = .ok (.lconst 1, 1) := by decide +kernel
theorem dX12_setNumbering_4 : decode cX12_setNumbering 4 = .ok (.invokestatic 50, 3) := by decide +kernel
theorem dX12_setNumbering_7 : decode cX12_setNumbering 7 = .ok (.ifCond .eq 13, 3) := by decide +kernel
theorem dX12_setNumbering_10 : decode cX12_setNumbering 10 = .ok (.aload_n 0, 1) := by decide +kernel
theorem dX12_setNumbering_11 : decode cX12_setNumbering 11 = .ok (.bipush 62, 2) := by decide +kernel
theorem dX12_setNumbering_13 : decode cX12_setNumbering 13 = .ok (.iload_n 1, 1) := by decide +kernel
theorem dX12_setNumbering_14 : decode cX12_setNumbering 14 = .ok (.invokevirtual 128, 3) := by decide +kernel
theorem dX12_setNumbering_17 : decode cX12_setNumbering 17 = .ok (.goto 4, 3) := by decide +kernel
theorem dX12_setNumbering_20 : decode cX12_setNumbering 20 = .ok (.iconst (-1), 1) := by decide +kernel
theorem dX12_setNumbering_21 : decode cX12_setNumbering 21 = .ok (.ireturn, 1) := by decide +kernel
set_option maxRecDepth 20000 in
theorem ggX12_setCiteOrder_X12_in : GoodIn wsX12_setCiteOrder wsX12_in := goodIn_r _ [4] (by decide +kernel) (by decide +kernel)
set_option maxRecDepth 20000 in
theorem gX12_setCiteOrder_X12_in : GoodIn wsX12_setCiteOrder (va_wsS RX12 50 yX12_in wsX12_in) := goodIn_app (goodIn_of _ (by decide +kernel)) ggX12_setCiteOrder_X12_in
set_option maxRecDepth 20000 in
theorem ggX12_setCiteOrder_X12_sets : GoodIn wsX12_setCiteOrder wsX12_sets := goodIn_r _ [8, 9, 10, 11, 12, 3, 13, 14, 15, 16, 17, 18, 19, 20, 21, 22, 23, 24, 25, 26, 27, 28, 29, 30, 31, 32, 33, 34] (by decide +kernel) (by decide +kernel)
set_option maxRecDepth 20000 in
theorem gX12_setCiteOrder_X12_sets : GoodIn wsX12_setCiteOrder (wsV RX12 128 RX12 yX12_sets wsX12_sets) := goodIn_app (goodIn_of _ (by decide +kernel)) ggX12_setCiteOrder_X12_sets
theorem dX12_setCiteOrder_0 : decode cX12_setCiteOrder 0 = .ok (.iload_n 1, 1) := by decide +kernel
theorem dX12_setCiteOrder_1 : decode cX12_setCiteOrder 1 = .ok (.i2l, 1) := by decide +kernel
theorem dX12_setCiteOrder_2 : decode cX12_setCiteOrder 2 = .ok (.lconst 0, 1) := by decide +kernel
theorem dX12_setCiteOrder_3 : decode cX12_setCiteOrder 3 = .ok (.lconst 1, 1) := by decide +kernel
theorem dX12_setCiteOrder_4 : decode cX12_setCiteOrder 4 = .ok (.invokestatic 50, 3) := by decide +kernel
theorem dX12_setCiteOrder_7 : decode cX12_setCiteOrder 7 = .ok (.ifCond .eq 13, 3) := by decide +kernel
theorem dX12_setCiteOrder_10 : decode cX12_setCiteOrder 10 = .ok (.aload_n 0, 1) := by decide +kernel
theorem dX12_setCiteOrder_11 : decode cX12_setCiteOrder 11 = .ok (.bipush 63, 2) := by decide +kernel
theorem dX12_setCiteOrder_13 : decode cX12_setCiteOrder 13 = .ok (.iload_n 1, 1) := by decide +kernel
theorem dX12_setCiteOrder_14 : decode cX12_setCiteOrder 14 = .ok (.invokevirtual 128, 3) := by decide +kernel
theorem dX12_setCiteOrder_17 : decode cX12_setCiteOrder 17 = .ok (.goto 4, 3) := by decide +kernel
theorem dX12_setCiteOrder_20 : decode cX12_setCiteOrder 20 = .ok (.iconst (-1), 1) := by decide +kernel
theorem dX12_setCiteOrder_21 : decode cX12_setCiteOrder 21 = .ok (.ireturn, 1) := by decide +kernel
set_option maxRecDepth 20000 in
theorem ggX12_beginCitation_X12_isWork : GoodIn wsX12_beginCitation wsX12_isWork := goodIn_r _ [6, 1, 7, 8, 5, 9, 16, 17, 18, 19, 20, 21, 22, 23, 24, 25, 26, 27, 28, 29, 30, 31, 32, 33, 34] (by decide +kernel) (by decide +kernel)
set_option maxRecDepth 20000 in
theorem gX12_beginCitation_X12_isWork : GoodIn wsX12_beginCitation (wsV RX12 116 RX12 yX12_isWork wsX12_isWork) := goodIn_app (goodIn_of _ (by decide +kernel)) ggX12_beginCitation_X12_isWork
set_option maxRecDepth 20000 in
theorem ggX12_beginCitation_X12_keeps : GoodIn wsX12_beginCitation wsX12_keeps := goodIn_r _ [13, 14, 15, 1, 16, 17, 18, 19, 20, 21, 22, 23, 24, 25, 26, 27, 28, 29, 30, 31, 32, 33, 34] (by decide +kernel) (by decide +kernel)
set_option maxRecDepth 20000 in
theorem gX12_beginCitation_X12_keeps : GoodIn wsX12_beginCitation (wsV RX12 105 RX12 yX12_keeps wsX12_keeps) := goodIn_app (goodIn_of _ (by decide +kernel)) ggX12_beginCitation_X12_keeps
theorem dX12_beginCitation_0 : decode cX12_beginCitation 0 = .ok (.aload_n 0, 1) := by decide +kernel
theorem dX12_beginCitation_1 : decode cX12_beginCitation 1 = .ok (.iload_n 1, 1) := by decide +kernel
theorem dX12_beginCitation_2 : decode cX12_beginCitation 2 = .ok (.invokevirtual 116, 3) := by decide +kernel
theorem dX12_beginCitation_5 : decode cX12_beginCitation 5 = .ok (.ifCond .ne 5, 3) := by decide +kernel
theorem dX12_beginCitation_8 : decode cX12_beginCitation 8 = .ok (.iconst (-1), 1) := by decide +kernel
theorem dX12_beginCitation_9 : decode cX12_beginCitation 9 = .ok (.ireturn, 1) := by decide +kernel
theorem dX12_beginCitation_10 : decode cX12_beginCitation 10 = .ok (.aload_n 0, 1) := by decide +kernel
theorem dX12_beginCitation_11 : decode cX12_beginCitation 11 = .ok (.getfield 7, 3) := by decide +kernel
theorem dX12_beginCitation_14 : decode cX12_beginCitation 14 = .ok (.bipush 70, 2) := by decide +kernel
theorem dX12_beginCitation_16 : decode cX12_beginCitation 16 = .ok (.iaload, 1) := by decide +kernel
theorem dX12_beginCitation_17 : decode cX12_beginCitation 17 = .ok (.bipush 10, 2) := by decide +kernel
theorem dX12_beginCitation_19 : decode cX12_beginCitation 19 = .ok (.if_icmp .ne 6, 3) := by decide +kernel
theorem dX12_beginCitation_22 : decode cX12_beginCitation 22 = .ok (.bipush (-3), 2) := by decide +kernel
theorem dX12_beginCitation_24 : decode cX12_beginCitation 24 = .ok (.ireturn, 1) := by decide +kernel
theorem dX12_beginCitation_25 : decode cX12_beginCitation 25 = .ok (.aload_n 0, 1) := by decide +kernel
theorem dX12_beginCitation_26 : decode cX12_beginCitation 26 = .ok (.invokevirtual 105, 3) := by decide +kernel
theorem dX12_beginCitation_29 : decode cX12_beginCitation 29 = .ok (.aload_n 0, 1) := by decide +kernel
theorem dX12_beginCitation_30 : decode cX12_beginCitation 30 = .ok (.getfield 7, 3) := by decide +kernel
theorem dX12_beginCitation_33 : decode cX12_beginCitation 33 = .ok (.bipush 71, 2) := by decide +kernel
theorem dX12_beginCitation_35 : decode cX12_beginCitation 35 = .ok (.bipush 6, 2) := by decide +kernel
theorem dX12_beginCitation_37 : decode cX12_beginCitation 37 = .ok (.aload_n 0, 1) := by decide +kernel
theorem dX12_beginCitation_38 : decode cX12_beginCitation 38 = .ok (.getfield 7, 3) := by decide +kernel
theorem dX12_beginCitation_41 : decode cX12_beginCitation 41 = .ok (.bipush 70, 2) := by decide +kernel
theorem dX12_beginCitation_43 : decode cX12_beginCitation 43 = .ok (.iaload, 1) := by decide +kernel
theorem dX12_beginCitation_44 : decode cX12_beginCitation 44 = .ok (.imul, 1) := by decide +kernel
theorem dX12_beginCitation_45 : decode cX12_beginCitation 45 = .ok (.iadd, 1) := by decide +kernel
theorem dX12_beginCitation_46 : decode cX12_beginCitation 46 = .ok (.iconst 1, 1) := by decide +kernel
theorem dX12_beginCitation_47 : decode cX12_beginCitation 47 = .ok (.iastore, 1) := by decide +kernel
theorem dX12_beginCitation_48 : decode cX12_beginCitation 48 = .ok (.aload_n 0, 1) := by decide +kernel
theorem dX12_beginCitation_49 : decode cX12_beginCitation 49 = .ok (.getfield 7, 3) := by decide +kernel
theorem dX12_beginCitation_52 : decode cX12_beginCitation 52 = .ok (.bipush 71, 2) := by decide +kernel
theorem dX12_beginCitation_54 : decode cX12_beginCitation 54 = .ok (.bipush 6, 2) := by decide +kernel
theorem dX12_beginCitation_56 : decode cX12_beginCitation 56 = .ok (.aload_n 0, 1) := by decide +kernel
theorem dX12_beginCitation_57 : decode cX12_beginCitation 57 = .ok (.getfield 7, 3) := by decide +kernel
theorem dX12_beginCitation_60 : decode cX12_beginCitation 60 = .ok (.bipush 70, 2) := by decide +kernel
theorem dX12_beginCitation_62 : decode cX12_beginCitation 62 = .ok (.iaload, 1) := by decide +kernel
theorem dX12_beginCitation_63 : decode cX12_beginCitation 63 = .ok (.imul, 1) := by decide +kernel
theorem dX12_beginCitation_64 : decode cX12_beginCitation 64 = .ok (.iadd, 1) := by decide +kernel
theorem dX12_beginCitation_65 : decode cX12_beginCitation 65 = .ok (.iconst 1, 1) := by decide +kernel
theorem dX12_beginCitation_66 : decode cX12_beginCitation 66 = .ok (.iadd, 1) := by decide +kernel
theorem dX12_beginCitation_67 : decode cX12_beginCitation 67 = .ok (.iload_n 1, 1) := by decide +kernel
theorem dX12_beginCitation_68 : decode cX12_beginCitation 68 = .ok (.iastore, 1) := by decide +kernel
theorem dX12_beginCitation_69 : decode cX12_beginCitation 69 = .ok (.aload_n 0, 1) := by decide +kernel
theorem dX12_beginCitation_70 : decode cX12_beginCitation 70 = .ok (.getfield 7, 3) := by decide +kernel
theorem dX12_beginCitation_73 : decode cX12_beginCitation 73 = .ok (.bipush 70, 2) := by decide +kernel
theorem dX12_beginCitation_75 : decode cX12_beginCitation 75 = .ok (.dup2, 1) := by decide +kernel
theorem dX12_beginCitation_76 : decode cX12_beginCitation 76 = .ok (.iaload, 1) := by decide +kernel
theorem dX12_beginCitation_77 : decode cX12_beginCitation 77 = .ok (.iconst 1, 1) := by decide +kernel
theorem dX12_beginCitation_78 : decode cX12_beginCitation 78 = .ok (.iadd, 1) := by decide +kernel
theorem dX12_beginCitation_79 : decode cX12_beginCitation 79 = .ok (.iastore, 1) := by decide +kernel
theorem dX12_beginCitation_80 : decode cX12_beginCitation 80 = .ok (.aload_n 0, 1) := by decide +kernel
theorem dX12_beginCitation_81 : decode cX12_beginCitation 81 = .ok (.getfield 7, 3) := by decide +kernel
theorem dX12_beginCitation_84 : decode cX12_beginCitation 84 = .ok (.bipush 70, 2) := by decide +kernel
theorem dX12_beginCitation_86 : decode cX12_beginCitation 86 = .ok (.iaload, 1) := by decide +kernel
theorem dX12_beginCitation_87 : decode cX12_beginCitation 87 = .ok (.iconst 1, 1) := by decide +kernel
theorem dX12_beginCitation_88 : decode cX12_beginCitation 88 = .ok (.isub, 1) := by decide +kernel
theorem dX12_beginCitation_89 : decode cX12_beginCitation 89 = .ok (.ireturn, 1) := by decide +kernel
set_option maxRecDepth 20000 in
theorem ggX12_doesCite_X12_cites : GoodIn wsX12_doesCite wsX12_cites := goodIn_r _ [5, 6, 11, 12, 13, 14, 15, 16, 17, 18, 19, 20, 21, 22, 23, 24, 25, 26, 27, 28, 29] (by decide +kernel) (by decide +kernel)
set_option maxRecDepth 20000 in
theorem gX12_doesCite_X12_cites : GoodIn wsX12_doesCite (wsV RX12 119 RX12 yX12_cites wsX12_cites) := goodIn_app (goodIn_of _ (by decide +kernel)) ggX12_doesCite_X12_cites
set_option maxRecDepth 20000 in
theorem ggX12_doesCite_X12_cited : GoodIn wsX12_doesCite wsX12_cited := goodIn_r _ [10, 6, 11, 12, 13, 14, 15, 16, 17, 18, 19, 20, 21, 22, 23, 24, 25, 26, 27, 28, 29] (by decide +kernel) (by decide +kernel)
set_option maxRecDepth 20000 in
theorem gX12_doesCite_X12_cited : GoodIn wsX12_doesCite (wsV RX12 122 RX12 yX12_cited wsX12_cited) := goodIn_app (goodIn_of _ (by decide +kernel)) ggX12_doesCite_X12_cited
theorem dX12_doesCite_0 : decode cX12_doesCite 0 = .ok (.iconst 0, 1) := by decide +kernel
theorem dX12_doesCite_1 : decode cX12_doesCite 1 = .ok (.istore_n 3, 1) := by decide +kernel
theorem dX12_doesCite_2 : decode cX12_doesCite 2 = .ok (.iconst 0, 1) := by decide +kernel
theorem dX12_doesCite_3 : decode cX12_doesCite 3 = .ok (.istore 4, 2) := by decide +kernel
theorem dX12_doesCite_5 : decode cX12_doesCite 5 = .ok (.iload 4, 2) := by decide +kernel
theorem dX12_doesCite_7 : decode cX12_doesCite 7 = .ok (.aload_n 0, 1) := by decide +kernel
theorem dX12_doesCite_8 : decode cX12_doesCite 8 = .ok (.iload_n 1, 1) := by decide +kernel
theorem dX12_doesCite_9 : decode cX12_doesCite 9 = .ok (.invokevirtual 119, 3) := by decide +kernel
theorem dX12_doesCite_12 : decode cX12_doesCite 12 = .ok (.if_icmp .ge 30, 3) := by decide +kernel
theorem dX12_doesCite_15 : decode cX12_doesCite 15 = .ok (.iload_n 3, 1) := by decide +kernel
theorem dX12_doesCite_16 : decode cX12_doesCite 16 = .ok (.ifCond .ne 14, 3) := by decide +kernel
theorem dX12_doesCite_19 : decode cX12_doesCite 19 = .ok (.aload_n 0, 1) := by decide +kernel
theorem dX12_doesCite_20 : decode cX12_doesCite 20 = .ok (.iload_n 1, 1) := by decide +kernel
theorem dX12_doesCite_21 : decode cX12_doesCite 21 = .ok (.iload 4, 2) := by decide +kernel
theorem dX12_doesCite_23 : decode cX12_doesCite 23 = .ok (.invokevirtual 122, 3) := by decide +kernel
theorem dX12_doesCite_26 : decode cX12_doesCite 26 = .ok (.iload_n 2, 1) := by decide +kernel
theorem dX12_doesCite_27 : decode cX12_doesCite 27 = .ok (.if_icmp .ne 7, 3) := by decide +kernel
theorem dX12_doesCite_30 : decode cX12_doesCite 30 = .ok (.iconst 1, 1) := by decide +kernel
theorem dX12_doesCite_31 : decode cX12_doesCite 31 = .ok (.goto 4, 3) := by decide +kernel
theorem dX12_doesCite_34 : decode cX12_doesCite 34 = .ok (.iconst 0, 1) := by decide +kernel
theorem dX12_doesCite_35 : decode cX12_doesCite 35 = .ok (.istore_n 3, 1) := by decide +kernel
theorem dX12_doesCite_36 : decode cX12_doesCite 36 = .ok (.iinc 4 1, 3) := by decide +kernel
theorem dX12_doesCite_39 : decode cX12_doesCite 39 = .ok (.goto (-34), 3) := by decide +kernel
theorem dX12_doesCite_42 : decode cX12_doesCite 42 = .ok (.iload_n 3, 1) := by decide +kernel
theorem dX12_doesCite_43 : decode cX12_doesCite 43 = .ok (.ireturn, 1) := by decide +kernel
set_option maxRecDepth 20000 in
theorem ggX12_addToCitation_X12_isWork : GoodIn wsX12_addToCitation wsX12_isWork := goodIn_r _ [6, 1, 7, 8, 5, 9, 28, 29, 30, 31, 32, 33, 34, 35, 36, 37, 38, 39, 40, 41, 42, 43, 44, 45, 46] (by decide +kernel) (by decide +kernel)
set_option maxRecDepth 20000 in
theorem gX12_addToCitation_X12_isWork : GoodIn wsX12_addToCitation (wsV RX12 116 RX12 yX12_isWork wsX12_isWork) := goodIn_app (goodIn_of _ (by decide +kernel)) ggX12_addToCitation_X12_isWork
set_option maxRecDepth 20000 in
theorem ggX12_addToCitation_X12_doesCite : GoodIn wsX12_addToCitation wsX12_doesCite := goodIn_r _ [13, 14, 15, 16, 5, 17, 1, 18, 19, 20, 21, 28, 29, 30, 31, 32, 33, 34, 35, 36, 37, 38, 39, 40, 41, 42, 43, 44, 45, 46] (by decide +kernel) (by decide +kernel)
set_option maxRecDepth 20000 in
theorem gX12_addToCitation_X12_doesCite : GoodIn wsX12_addToCitation (wsV RX12 139 RX12 yX12_doesCite wsX12_doesCite) := goodIn_app (goodIn_of _ (by decide +kernel)) ggX12_addToCitation_X12_doesCite
set_option maxRecDepth 20000 in
theorem ggX12_addToCitation_X12_cites : GoodIn wsX12_addToCitation wsX12_cites := goodIn_r _ [17, 1, 28, 29, 30, 31, 32, 33, 34, 35, 36, 37, 38, 39, 40, 41, 42, 43, 44, 45, 46] (by decide +kernel) (by decide +kernel)
set_option maxRecDepth 20000 in
theorem gX12_addToCitation_X12_cites : GoodIn wsX12_addToCitation (wsV RX12 119 RX12 yX12_cites wsX12_cites) := goodIn_app (goodIn_of _ (by decide +kernel)) ggX12_addToCitation_X12_cites
set_option maxRecDepth 20000 in
theorem ggX12_addToCitation_X12_keeps : GoodIn wsX12_addToCitation wsX12_keeps := goodIn_r _ [25, 26, 27, 1, 28, 29, 30, 31, 32, 33, 34, 35, 36, 37, 38, 39, 40, 41, 42, 43, 44, 45, 46] (by decide +kernel) (by decide +kernel)
set_option maxRecDepth 20000 in
theorem gX12_addToCitation_X12_keeps : GoodIn wsX12_addToCitation (wsV RX12 105 RX12 yX12_keeps wsX12_keeps) := goodIn_app (goodIn_of _ (by decide +kernel)) ggX12_addToCitation_X12_keeps
theorem dX12_addToCitation_0 : decode cX12_addToCitation 0 = .ok (.aload_n 0, 1) := by decide +kernel
theorem dX12_addToCitation_1 : decode cX12_addToCitation 1 = .ok (.iload_n 1, 1) := by decide +kernel
theorem dX12_addToCitation_2 : decode cX12_addToCitation 2 = .ok (.invokevirtual 116, 3) := by decide +kernel
theorem dX12_addToCitation_5 : decode cX12_addToCitation 5 = .ok (.ifCond .ne 5, 3) := by decide +kernel
theorem dX12_addToCitation_8 : decode cX12_addToCitation 8 = .ok (.iconst (-1), 1) := by decide +kernel
theorem dX12_addToCitation_9 : decode cX12_addToCitation 9 = .ok (.ireturn, 1) := by decide +kernel
theorem dX12_addToCitation_10 : decode cX12_addToCitation 10 = .ok (.aload_n 0, 1) := by decide +kernel
theorem dX12_addToCitation_11 : decode cX12_addToCitation 11 = .ok (.getfield 7, 3) := by decide +kernel
theorem dX12_addToCitation_14 : decode cX12_addToCitation 14 = .ok (.bipush 70, 2) := by decide +kernel
theorem dX12_addToCitation_16 : decode cX12_addToCitation 16 = .ok (.iaload, 1) := by decide +kernel
theorem dX12_addToCitation_17 : decode cX12_addToCitation 17 = .ok (.iconst 1, 1) := by decide +kernel
theorem dX12_addToCitation_18 : decode cX12_addToCitation 18 = .ok (.isub, 1) := by decide +kernel
theorem dX12_addToCitation_19 : decode cX12_addToCitation 19 = .ok (.istore_n 2, 1) := by decide +kernel
theorem dX12_addToCitation_20 : decode cX12_addToCitation 20 = .ok (.iload_n 2, 1) := by decide +kernel
theorem dX12_addToCitation_21 : decode cX12_addToCitation 21 = .ok (.ifCond .lt 12, 3) := by decide +kernel
theorem dX12_addToCitation_24 : decode cX12_addToCitation 24 = .ok (.aload_n 0, 1) := by decide +kernel
theorem dX12_addToCitation_25 : decode cX12_addToCitation 25 = .ok (.iload_n 2, 1) := by decide +kernel
theorem dX12_addToCitation_26 : decode cX12_addToCitation 26 = .ok (.iload_n 1, 1) := by decide +kernel
theorem dX12_addToCitation_27 : decode cX12_addToCitation 27 = .ok (.invokevirtual 139, 3) := by decide +kernel
theorem dX12_addToCitation_30 : decode cX12_addToCitation 30 = .ok (.ifCond .eq 6, 3) := by decide +kernel
theorem dX12_addToCitation_33 : decode cX12_addToCitation 33 = .ok (.bipush (-2), 2) := by decide +kernel
theorem dX12_addToCitation_35 : decode cX12_addToCitation 35 = .ok (.ireturn, 1) := by decide +kernel
theorem dX12_addToCitation_36 : decode cX12_addToCitation 36 = .ok (.aload_n 0, 1) := by decide +kernel
theorem dX12_addToCitation_37 : decode cX12_addToCitation 37 = .ok (.iload_n 2, 1) := by decide +kernel
theorem dX12_addToCitation_38 : decode cX12_addToCitation 38 = .ok (.invokevirtual 119, 3) := by decide +kernel
theorem dX12_addToCitation_41 : decode cX12_addToCitation 41 = .ok (.iconst 5, 1) := by decide +kernel
theorem dX12_addToCitation_42 : decode cX12_addToCitation 42 = .ok (.if_icmp .ne 6, 3) := by decide +kernel
theorem dX12_addToCitation_45 : decode cX12_addToCitation 45 = .ok (.bipush (-3), 2) := by decide +kernel
theorem dX12_addToCitation_47 : decode cX12_addToCitation 47 = .ok (.ireturn, 1) := by decide +kernel
theorem dX12_addToCitation_48 : decode cX12_addToCitation 48 = .ok (.aload_n 0, 1) := by decide +kernel
theorem dX12_addToCitation_49 : decode cX12_addToCitation 49 = .ok (.invokevirtual 105, 3) := by decide +kernel
theorem dX12_addToCitation_52 : decode cX12_addToCitation 52 = .ok (.aload_n 0, 1) := by decide +kernel
theorem dX12_addToCitation_53 : decode cX12_addToCitation 53 = .ok (.getfield 7, 3) := by decide +kernel
theorem dX12_addToCitation_56 : decode cX12_addToCitation 56 = .ok (.bipush 71, 2) := by decide +kernel
theorem dX12_addToCitation_58 : decode cX12_addToCitation 58 = .ok (.bipush 6, 2) := by decide +kernel
theorem dX12_addToCitation_60 : decode cX12_addToCitation 60 = .ok (.iload_n 2, 1) := by decide +kernel
theorem dX12_addToCitation_61 : decode cX12_addToCitation 61 = .ok (.imul, 1) := by decide +kernel
theorem dX12_addToCitation_62 : decode cX12_addToCitation 62 = .ok (.iadd, 1) := by decide +kernel
theorem dX12_addToCitation_63 : decode cX12_addToCitation 63 = .ok (.iconst 1, 1) := by decide +kernel
theorem dX12_addToCitation_64 : decode cX12_addToCitation 64 = .ok (.iadd, 1) := by decide +kernel
theorem dX12_addToCitation_65 : decode cX12_addToCitation 65 = .ok (.aload_n 0, 1) := by decide +kernel
theorem dX12_addToCitation_66 : decode cX12_addToCitation 66 = .ok (.iload_n 2, 1) := by decide +kernel
theorem dX12_addToCitation_67 : decode cX12_addToCitation 67 = .ok (.invokevirtual 119, 3) := by decide +kernel
theorem dX12_addToCitation_70 : decode cX12_addToCitation 70 = .ok (.iadd, 1) := by decide +kernel
theorem dX12_addToCitation_71 : decode cX12_addToCitation 71 = .ok (.iload_n 1, 1) := by decide +kernel
theorem dX12_addToCitation_72 : decode cX12_addToCitation 72 = .ok (.iastore, 1) := by decide +kernel
theorem dX12_addToCitation_73 : decode cX12_addToCitation 73 = .ok (.aload_n 0, 1) := by decide +kernel
theorem dX12_addToCitation_74 : decode cX12_addToCitation 74 = .ok (.getfield 7, 3) := by decide +kernel
theorem dX12_addToCitation_77 : decode cX12_addToCitation 77 = .ok (.bipush 71, 2) := by decide +kernel
theorem dX12_addToCitation_79 : decode cX12_addToCitation 79 = .ok (.bipush 6, 2) := by decide +kernel
theorem dX12_addToCitation_81 : decode cX12_addToCitation 81 = .ok (.iload_n 2, 1) := by decide +kernel
theorem dX12_addToCitation_82 : decode cX12_addToCitation 82 = .ok (.imul, 1) := by decide +kernel
theorem dX12_addToCitation_83 : decode cX12_addToCitation 83 = .ok (.iadd, 1) := by decide +kernel
theorem dX12_addToCitation_84 : decode cX12_addToCitation 84 = .ok (.dup2, 1) := by decide +kernel
theorem dX12_addToCitation_85 : decode cX12_addToCitation 85 = .ok (.iaload, 1) := by decide +kernel
theorem dX12_addToCitation_86 : decode cX12_addToCitation 86 = .ok (.iconst 1, 1) := by decide +kernel
theorem dX12_addToCitation_87 : decode cX12_addToCitation 87 = .ok (.iadd, 1) := by decide +kernel
theorem dX12_addToCitation_88 : decode cX12_addToCitation 88 = .ok (.iastore, 1) := by decide +kernel
theorem dX12_addToCitation_89 : decode cX12_addToCitation 89 = .ok (.aload_n 0, 1) := by decide +kernel
theorem dX12_addToCitation_90 : decode cX12_addToCitation 90 = .ok (.iload_n 2, 1) := by decide +kernel
theorem dX12_addToCitation_91 : decode cX12_addToCitation 91 = .ok (.invokevirtual 119, 3) := by decide +kernel
theorem dX12_addToCitation_94 : decode cX12_addToCitation 94 = .ok (.ireturn, 1) := by decide +kernel
set_option maxRecDepth 20000 in
theorem ggX12_removeCitation_X12_isCitation : GoodIn wsX12_removeCitation wsX12_isCitation := goodIn_r _ [6, 1, 7, 8, 5, 9, 20, 21, 22, 23, 24, 25, 26, 27, 28, 29, 30, 31, 32, 33, 34, 35, 36, 37, 38] (by decide +kernel) (by decide +kernel)
set_option maxRecDepth 20000 in
theorem gX12_removeCitation_X12_isCitation : GoodIn wsX12_removeCitation (wsV RX12 143 RX12 yX12_isCitation wsX12_isCitation) := goodIn_app (goodIn_of _ (by decide +kernel)) ggX12_removeCitation_X12_isCitation
set_option maxRecDepth 20000 in
theorem ggX12_removeCitation_X12_keeps : GoodIn wsX12_removeCitation wsX12_keeps := goodIn_r _ [13, 14, 15, 1, 20, 21, 22, 23, 24, 25, 26, 27, 28, 29, 30, 31, 32, 33, 34, 35, 36, 37, 38] (by decide +kernel) (by decide +kernel)
set_option maxRecDepth 20000 in
theorem gX12_removeCitation_X12_keeps : GoodIn wsX12_removeCitation (wsV RX12 105 RX12 yX12_keeps wsX12_keeps) := goodIn_app (goodIn_of _ (by decide +kernel)) ggX12_removeCitation_X12_keeps
set_option maxRecDepth 20000 in
theorem ggX12_removeCitation_X12_cites : GoodIn wsX12_removeCitation wsX12_cites := goodIn_r _ [19, 1, 20, 21, 22, 23, 24, 25, 26, 27, 28, 29, 30, 31, 32, 33, 34, 35, 36, 37, 38] (by decide +kernel) (by decide +kernel)
set_option maxRecDepth 20000 in
theorem gX12_removeCitation_X12_cites : GoodIn wsX12_removeCitation (wsV RX12 119 RX12 yX12_cites wsX12_cites) := goodIn_app (goodIn_of _ (by decide +kernel)) ggX12_removeCitation_X12_cites
theorem dX12_removeCitation_0 : decode cX12_removeCitation 0 = .ok (.aload_n 0, 1) := by decide +kernel
theorem dX12_removeCitation_1 : decode cX12_removeCitation 1 = .ok (.iload_n 1, 1) := by decide +kernel
theorem dX12_removeCitation_2 : decode cX12_removeCitation 2 = .ok (.invokevirtual 143, 3) := by decide +kernel
theorem dX12_removeCitation_5 : decode cX12_removeCitation 5 = .ok (.ifCond .ne 5, 3) := by decide +kernel
theorem dX12_removeCitation_8 : decode cX12_removeCitation 8 = .ok (.iconst (-1), 1) := by decide +kernel
theorem dX12_removeCitation_9 : decode cX12_removeCitation 9 = .ok (.ireturn, 1) := by decide +kernel
theorem dX12_removeCitation_10 : decode cX12_removeCitation 10 = .ok (.aload_n 0, 1) := by decide +kernel
theorem dX12_removeCitation_11 : decode cX12_removeCitation 11 = .ok (.invokevirtual 105, 3) := by decide +kernel
theorem dX12_removeCitation_14 : decode cX12_removeCitation 14 = .ok (.aload_n 0, 1) := by decide +kernel
theorem dX12_removeCitation_15 : decode cX12_removeCitation 15 = .ok (.iload_n 1, 1) := by decide +kernel
theorem dX12_removeCitation_16 : decode cX12_removeCitation 16 = .ok (.invokevirtual 119, 3) := by decide +kernel
theorem dX12_removeCitation_19 : decode cX12_removeCitation 19 = .ok (.istore_n 2, 1) := by decide +kernel
theorem dX12_removeCitation_20 : decode cX12_removeCitation 20 = .ok (.aload_n 0, 1) := by decide +kernel
theorem dX12_removeCitation_21 : decode cX12_removeCitation 21 = .ok (.getfield 7, 3) := by decide +kernel
theorem dX12_removeCitation_24 : decode cX12_removeCitation 24 = .ok (.bipush 70, 2) := by decide +kernel
theorem dX12_removeCitation_26 : decode cX12_removeCitation 26 = .ok (.dup2, 1) := by decide +kernel
theorem dX12_removeCitation_27 : decode cX12_removeCitation 27 = .ok (.iaload, 1) := by decide +kernel
theorem dX12_removeCitation_28 : decode cX12_removeCitation 28 = .ok (.iconst 1, 1) := by decide +kernel
theorem dX12_removeCitation_29 : decode cX12_removeCitation 29 = .ok (.isub, 1) := by decide +kernel
theorem dX12_removeCitation_30 : decode cX12_removeCitation 30 = .ok (.iastore, 1) := by decide +kernel
theorem dX12_removeCitation_31 : decode cX12_removeCitation 31 = .ok (.bipush 71, 2) := by decide +kernel
theorem dX12_removeCitation_33 : decode cX12_removeCitation 33 = .ok (.bipush 6, 2) := by decide +kernel
theorem dX12_removeCitation_35 : decode cX12_removeCitation 35 = .ok (.iload_n 1, 1) := by decide +kernel
theorem dX12_removeCitation_36 : decode cX12_removeCitation 36 = .ok (.imul, 1) := by decide +kernel
theorem dX12_removeCitation_37 : decode cX12_removeCitation 37 = .ok (.iadd, 1) := by decide +kernel
theorem dX12_removeCitation_38 : decode cX12_removeCitation 38 = .ok (.istore_n 3, 1) := by decide +kernel
theorem dX12_removeCitation_39 : decode cX12_removeCitation 39 = .ok (.iload_n 3, 1) := by decide +kernel
theorem dX12_removeCitation_40 : decode cX12_removeCitation 40 = .ok (.bipush 71, 2) := by decide +kernel
theorem dX12_removeCitation_42 : decode cX12_removeCitation 42 = .ok (.bipush 6, 2) := by decide +kernel
theorem dX12_removeCitation_44 : decode cX12_removeCitation 44 = .ok (.aload_n 0, 1) := by decide +kernel
theorem dX12_removeCitation_45 : decode cX12_removeCitation 45 = .ok (.getfield 7, 3) := by decide +kernel
theorem dX12_removeCitation_48 : decode cX12_removeCitation 48 = .ok (.bipush 70, 2) := by decide +kernel
theorem dX12_removeCitation_50 : decode cX12_removeCitation 50 = .ok (.iaload, 1) := by decide +kernel
theorem dX12_removeCitation_51 : decode cX12_removeCitation 51 = .ok (.imul, 1) := by decide +kernel
theorem dX12_removeCitation_52 : decode cX12_removeCitation 52 = .ok (.iadd, 1) := by decide +kernel
theorem dX12_removeCitation_53 : decode cX12_removeCitation 53 = .ok (.if_icmp .ge 24, 3) := by decide +kernel
theorem dX12_removeCitation_56 : decode cX12_removeCitation 56 = .ok (.aload_n 0, 1) := by decide +kernel
theorem dX12_removeCitation_57 : decode cX12_removeCitation 57 = .ok (.getfield 7, 3) := by decide +kernel
theorem dX12_removeCitation_60 : decode cX12_removeCitation 60 = .ok (.iload_n 3, 1) := by decide +kernel
theorem dX12_removeCitation_61 : decode cX12_removeCitation 61 = .ok (.aload_n 0, 1) := by decide +kernel
theorem dX12_removeCitation_62 : decode cX12_removeCitation 62 = .ok (.getfield 7, 3) := by decide +kernel
theorem dX12_removeCitation_65 : decode cX12_removeCitation 65 = .ok (.iload_n 3, 1) := by decide +kernel
theorem dX12_removeCitation_66 : decode cX12_removeCitation 66 = .ok (.bipush 6, 2) := by decide +kernel
theorem dX12_removeCitation_68 : decode cX12_removeCitation 68 = .ok (.iadd, 1) := by decide +kernel
theorem dX12_removeCitation_69 : decode cX12_removeCitation 69 = .ok (.iaload, 1) := by decide +kernel
theorem dX12_removeCitation_70 : decode cX12_removeCitation 70 = .ok (.iastore, 1) := by decide +kernel
theorem dX12_removeCitation_71 : decode cX12_removeCitation 71 = .ok (.iinc 3 1, 3) := by decide +kernel
theorem dX12_removeCitation_74 : decode cX12_removeCitation 74 = .ok (.goto (-35), 3) := by decide +kernel
theorem dX12_removeCitation_77 : decode cX12_removeCitation 77 = .ok (.iload_n 2, 1) := by decide +kernel
theorem dX12_removeCitation_78 : decode cX12_removeCitation 78 = .ok (.ireturn, 1) := by decide +kernel
theorem dX12_workCount_0 : decode cX12_workCount 0 = .ok (.aload_n 0, 1) := by decide +kernel
theorem dX12_workCount_1 : decode cX12_workCount 1 = .ok (.getfield 7, 3) := by decide +kernel
theorem dX12_workCount_4 : decode cX12_workCount 4 = .ok (.iconst 0, 1) := by decide +kernel
theorem dX12_workCount_5 : decode cX12_workCount 5 = .ok (.iaload, 1) := by decide +kernel
theorem dX12_workCount_6 : decode cX12_workCount 6 = .ok (.ireturn, 1) := by decide +kernel
set_option maxRecDepth 20000 in
theorem ggX12_authorCount_X12_isWork : GoodIn wsX12_authorCount wsX12_isWork := goodIn_r _ [5, 6, 7, 8, 4, 9, 14, 15, 16, 17, 18, 19, 20, 21, 22, 23, 24, 25, 26, 27, 28, 29, 30, 31, 32] (by decide +kernel) (by decide +kernel)
set_option maxRecDepth 20000 in
theorem gX12_authorCount_X12_isWork : GoodIn wsX12_authorCount (wsV RX12 116 RX12 yX12_isWork wsX12_isWork) := goodIn_app (goodIn_of _ (by decide +kernel)) ggX12_authorCount_X12_isWork
set_option maxRecDepth 20000 in
theorem ggX12_authorCount_X12_authors : GoodIn wsX12_authorCount wsX12_authors := goodIn_r _ [13, 6, 14, 15, 16, 17, 18, 19, 20, 21, 22, 23, 24, 25, 26, 27, 28, 29, 30, 31, 32] (by decide +kernel) (by decide +kernel)
set_option maxRecDepth 20000 in
theorem gX12_authorCount_X12_authors : GoodIn wsX12_authorCount (wsV RX12 146 RX12 yX12_authors wsX12_authors) := goodIn_app (goodIn_of _ (by decide +kernel)) ggX12_authorCount_X12_authors
theorem dX12_authorCount_0 : decode cX12_authorCount 0 = .ok (.aload_n 0, 1) := by decide +kernel
theorem dX12_authorCount_1 : decode cX12_authorCount 1 = .ok (.iload_n 1, 1) := by decide +kernel
theorem dX12_authorCount_2 : decode cX12_authorCount 2 = .ok (.invokevirtual 116, 3) := by decide +kernel
theorem dX12_authorCount_5 : decode cX12_authorCount 5 = .ok (.ifCond .eq 11, 3) := by decide +kernel
theorem dX12_authorCount_8 : decode cX12_authorCount 8 = .ok (.aload_n 0, 1) := by decide +kernel
theorem dX12_authorCount_9 : decode cX12_authorCount 9 = .ok (.iload_n 1, 1) := by decide +kernel
theorem dX12_authorCount_10 : decode cX12_authorCount 10 = .ok (.invokevirtual 146, 3) := by decide +kernel
theorem dX12_authorCount_13 : decode cX12_authorCount 13 = .ok (.goto 4, 3) := by decide +kernel
theorem dX12_authorCount_16 : decode cX12_authorCount 16 = .ok (.iconst (-1), 1) := by decide +kernel
theorem dX12_authorCount_17 : decode cX12_authorCount 17 = .ok (.ireturn, 1) := by decide +kernel
theorem dX12_citationCount_0 : decode cX12_citationCount 0 = .ok (.aload_n 0, 1) := by decide +kernel
theorem dX12_citationCount_1 : decode cX12_citationCount 1 = .ok (.getfield 7, 3) := by decide +kernel
theorem dX12_citationCount_4 : decode cX12_citationCount 4 = .ok (.bipush 70, 2) := by decide +kernel
theorem dX12_citationCount_6 : decode cX12_citationCount 6 = .ok (.iaload, 1) := by decide +kernel
theorem dX12_citationCount_7 : decode cX12_citationCount 7 = .ok (.ireturn, 1) := by decide +kernel
set_option maxRecDepth 20000 in
theorem ggX12_citationSize_X12_isCitation : GoodIn wsX12_citationSize wsX12_isCitation := goodIn_r _ [5, 6, 7, 8, 4, 9, 14, 15, 16, 17, 18, 19, 20, 21, 22, 23, 24, 25, 26, 27, 28, 29, 30, 31, 32] (by decide +kernel) (by decide +kernel)
set_option maxRecDepth 20000 in
theorem gX12_citationSize_X12_isCitation : GoodIn wsX12_citationSize (wsV RX12 143 RX12 yX12_isCitation wsX12_isCitation) := goodIn_app (goodIn_of _ (by decide +kernel)) ggX12_citationSize_X12_isCitation
set_option maxRecDepth 20000 in
theorem ggX12_citationSize_X12_cites : GoodIn wsX12_citationSize wsX12_cites := goodIn_r _ [13, 6, 14, 15, 16, 17, 18, 19, 20, 21, 22, 23, 24, 25, 26, 27, 28, 29, 30, 31, 32] (by decide +kernel) (by decide +kernel)
