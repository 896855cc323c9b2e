set_option maxRecDepth 20000 in
theorem ggL_layOut_X2_layOut : GoodIn wsL_layOut wsX2_layOut := goodIn_ca (goodIn_r _ [6, 7, 8, 9, 10, 11, 5, 12, 13, 14, 15, 16, 17, 18, 19, 20, 21, 22, 23, 24, 25, 26, 27, 28, 29, 30, 31, 32, 33, 34, 35, 36, 37, 38, 39, 40, 41, 42, 43, 44, 45, 46, 47, 48, 49, 50, 51, 52, 53, 54, 55, 56, 57, 58, 59, 60, 61, 62, 63, 64, 65] (by decide +kernel) (by decide +kernel)) (goodIn_sub (fun _ h => List.mem_cons_of_mem _ (List.mem_append_right _ h)) (by decide +kernel))
set_option maxRecDepth 20000 in
theorem gL_layOut_X2_layOut : GoodIn wsL_layOut (wsV RL 7 RX2 yX2_layOut wsX2_layOut) := goodIn_app (goodIn_of _ (by decide +kernel)) ggL_layOut_X2_layOut
theorem dL_layOut_0 : decode cL_layOut 0 = .ok (.aload_n 3, 1) := by decide +kernel
theorem dL_layOut_1 : decode cL_layOut 1 = .ok (.iconst 0, 1) := by decide +kernel
theorem dL_layOut_2 : decode cL_layOut 2 = .ok (.aload_n 0, 1) := by decide +kernel
theorem dL_layOut_3 : decode cL_layOut 3 = .ok (.iload_n 1, 1) := by decide +kernel
theorem dL_layOut_4 : decode cL_layOut 4 = .ok (.iload_n 2, 1) := by decide +kernel
theorem dL_layOut_5 : decode cL_layOut 5 = .ok (.invokevirtual 7, 3) := by decide +kernel
theorem dL_layOut_8 : decode cL_layOut 8 = .ok (.i2l, 1) := by decide +kernel
theorem dL_layOut_9 : decode cL_layOut 9 = .ok (.lastore, 1) := by decide +kernel
theorem dL_layOut_10 : decode cL_layOut 10 = .ok (.goto 7, 3) := by decide +kernel
theorem dL_layOut_13 : decode cL_layOut 13 = .ok (.astore 4, 2) := by decide +kernel
theorem dL_layOut_15 : decode cL_layOut 15 = .ok (.iconst 1, 1) := by decide +kernel
theorem dL_layOut_16 : decode cL_layOut 16 = .ok (.ireturn, 1) := by decide +kernel
theorem dL_layOut_17 : decode cL_layOut 17 = .ok (.iconst 0, 1) := by decide +kernel
theorem dL_layOut_18 : decode cL_layOut 18 = .ok (.ireturn, 1) := by decide +kernel
set_option maxRecDepth 20000 in
theorem ggL_pile_X2_pile : GoodIn wsL_pile wsX2_pile := goodIn_ca (goodIn_ca (goodIn_ca (goodIn_r _ [8, 9, 10, 11, 12, 13, 14, 15, 7, 16, 17, 18, 19, 20, 21, 22, 23, 24, 25, 26, 27, 28, 29, 30, 31, 32, 33, 34, 35, 36, 37, 38, 39, 40, 41, 42, 43, 44, 45, 46, 47, 48, 49, 50, 51, 52, 53, 54, 55, 56, 57, 58, 59, 60, 61, 62, 63, 64, 65, 66, 67, 68, 69, 70, 71, 72, 73, 74, 75, 76, 77, 78, 79, 80, 81, 82, 83, 84, 85, 86, 87, 88, 89, 90, 91, 92, 93, 94, 95, 96, 97, 98, 99, 100, 101, 102, 103, 104, 105, 106, 107, 108, 109] (by decide +kernel) (by decide +kernel)) (goodIn_sub (fun _ h => List.mem_cons_of_mem _ (List.mem_append_left _ (List.mem_append_left _ (List.mem_append_right _ h)))) (by decide +kernel))) (goodIn_sub (fun _ h => List.mem_cons_of_mem _ (List.mem_append_left _ (List.mem_append_right _ h))) (by decide +kernel))) (goodIn_sub (fun _ h => List.mem_cons_of_mem _ (List.mem_append_right _ h)) (by decide +kernel))
set_option maxRecDepth 20000 in
theorem gL_pile_X2_pile : GoodIn wsL_pile (wsV RL 15 RX2 yX2_pile wsX2_pile) := goodIn_app (goodIn_of _ (by decide +kernel)) ggL_pile_X2_pile
theorem dL_pile_0 : decode cL_pile 0 = .ok (.aload_n 3, 1) := by decide +kernel
theorem dL_pile_1 : decode cL_pile 1 = .ok (.iconst 0, 1) := by decide +kernel
theorem dL_pile_2 : decode cL_pile 2 = .ok (.aload_n 0, 1) := by decide +kernel
theorem dL_pile_3 : decode cL_pile 3 = .ok (.iload_n 1, 1) := by decide +kernel
theorem dL_pile_4 : decode cL_pile 4 = .ok (.iload_n 2, 1) := by decide +kernel
theorem dL_pile_5 : decode cL_pile 5 = .ok (.invokevirtual 15, 3) := by decide +kernel
theorem dL_pile_8 : decode cL_pile 8 = .ok (.i2l, 1) := by decide +kernel
theorem dL_pile_9 : decode cL_pile 9 = .ok (.lastore, 1) := by decide +kernel
theorem dL_pile_10 : decode cL_pile 10 = .ok (.goto 15, 3) := by decide +kernel
theorem dL_pile_13 : decode cL_pile 13 = .ok (.astore 4, 2) := by decide +kernel
theorem dL_pile_15 : decode cL_pile 15 = .ok (.iconst 1, 1) := by decide +kernel
theorem dL_pile_16 : decode cL_pile 16 = .ok (.ireturn, 1) := by decide +kernel
theorem dL_pile_17 : decode cL_pile 17 = .ok (.astore 4, 2) := by decide +kernel
theorem dL_pile_19 : decode cL_pile 19 = .ok (.iconst 2, 1) := by decide +kernel
theorem dL_pile_20 : decode cL_pile 20 = .ok (.ireturn, 1) := by decide +kernel
theorem dL_pile_21 : decode cL_pile 21 = .ok (.astore 4, 2) := by decide +kernel
theorem dL_pile_23 : decode cL_pile 23 = .ok (.iconst 3, 1) := by decide +kernel
theorem dL_pile_24 : decode cL_pile 24 = .ok (.ireturn, 1) := by decide +kernel
theorem dL_pile_25 : decode cL_pile 25 = .ok (.iconst 0, 1) := by decide +kernel
theorem dL_pile_26 : decode cL_pile 26 = .ok (.ireturn, 1) := by decide +kernel
set_option maxRecDepth 20000 in
theorem ggL_lower_X2_lower : GoodIn wsL_lower wsX2_lower := goodIn_ca (goodIn_ca (goodIn_r _ [7, 8, 9, 10, 11, 12, 13, 6, 14, 15, 16, 17, 18, 19, 20, 21, 22, 23, 24, 25, 26, 27, 28, 29, 30, 31, 32, 33, 34, 35, 36, 37, 38, 39, 40, 41, 42, 43, 44, 45, 46, 47, 48, 49, 50, 51, 52, 53, 54, 55, 56, 57, 58, 59, 60, 61, 62, 63, 64, 65, 66, 67, 68, 69, 70, 71, 72, 73, 74, 75, 76, 77, 78, 79, 80, 81, 82, 83, 84, 85, 86, 87, 88, 89, 90, 91, 92, 93, 94, 95, 96, 97, 98, 99, 100, 101, 102, 103, 104, 105, 106, 107, 108, 109, 110, 111, 112, 113, 114, 115, 116, 117, 118, 119, 120, 121] (by decide +kernel) (by decide +kernel)) (goodIn_sub (fun _ h => List.mem_cons_of_mem _ (List.mem_append_left _ (List.mem_append_right _ h))) (by decide +kernel))) (goodIn_sub (fun _ h => List.mem_cons_of_mem _ (List.mem_append_right _ h)) (by decide +kernel))
set_option maxRecDepth 20000 in
theorem gL_lower_X2_lower : GoodIn wsL_lower (wsV RL 22 RX2 yX2_lower wsX2_lower) := goodIn_app (goodIn_of _ (by decide +kernel)) ggL_lower_X2_lower
theorem dL_lower_0 : decode cL_lower 0 = .ok (.aload 4, 2) := by decide +kernel
theorem dL_lower_2 : decode cL_lower 2 = .ok (.iconst 0, 1) := by decide +kernel
theorem dL_lower_3 : decode cL_lower 3 = .ok (.aload_n 0, 1) := by decide +kernel
theorem dL_lower_4 : decode cL_lower 4 = .ok (.iload_n 1, 1) := by decide +kernel
theorem dL_lower_5 : decode cL_lower 5 = .ok (.iload_n 2, 1) := by decide +kernel
theorem dL_lower_6 : decode cL_lower 6 = .ok (.iload_n 3, 1) := by decide +kernel
theorem dL_lower_7 : decode cL_lower 7 = .ok (.invokevirtual 22, 3) := by decide +kernel
theorem dL_lower_10 : decode cL_lower 10 = .ok (.i2l, 1) := by decide +kernel
theorem dL_lower_11 : decode cL_lower 11 = .ok (.lastore, 1) := by decide +kernel
theorem dL_lower_12 : decode cL_lower 12 = .ok (.goto 11, 3) := by decide +kernel
theorem dL_lower_15 : decode cL_lower 15 = .ok (.astore 5, 2) := by decide +kernel
theorem dL_lower_17 : decode cL_lower 17 = .ok (.iconst 1, 1) := by decide +kernel
theorem dL_lower_18 : decode cL_lower 18 = .ok (.ireturn, 1) := by decide +kernel
theorem dL_lower_19 : decode cL_lower 19 = .ok (.astore 5, 2) := by decide +kernel
theorem dL_lower_21 : decode cL_lower 21 = .ok (.iconst 2, 1) := by decide +kernel
theorem dL_lower_22 : decode cL_lower 22 = .ok (.ireturn, 1) := by decide +kernel
theorem dL_lower_23 : decode cL_lower 23 = .ok (.iconst 0, 1) := by decide +kernel
theorem dL_lower_24 : decode cL_lower 24 = .ok (.ireturn, 1) := by decide +kernel
set_option maxRecDepth 20000 in
theorem ggL_earth_X2_earth : GoodIn wsL_earth wsX2_earth := goodIn_ca (goodIn_ca (goodIn_r _ [7, 8, 9, 10, 11, 6, 12, 13, 14, 15, 16, 17, 18, 19, 20, 21, 22, 23, 24, 25, 26, 27, 28, 29, 30, 31, 32, 33, 34, 35, 36, 37, 38, 39, 40, 41, 42, 43, 44, 45, 46, 47, 48, 49, 50, 51, 52, 53, 54, 55, 56, 57, 58, 59, 60, 61, 62, 63, 64, 65, 66, 67, 68, 69, 70, 71, 72, 73, 74, 75, 76, 77, 78, 79, 80, 81, 82, 83, 84, 85, 86, 87, 88, 89, 90] (by decide +kernel) (by decide +kernel)) (goodIn_sub (fun _ h => List.mem_cons_of_mem _ (List.mem_append_left _ (List.mem_append_right _ h))) (by decide +kernel))) (goodIn_sub (fun _ h => List.mem_cons_of_mem _ (List.mem_append_right _ h)) (by decide +kernel))
set_option maxRecDepth 20000 in
theorem gL_earth_X2_earth : GoodIn wsL_earth (wsV RL 26 RX2 yX2_earth wsX2_earth) := goodIn_app (goodIn_of _ (by decide +kernel)) ggL_earth_X2_earth
theorem dL_earth_0 : decode cL_earth 0 = .ok (.aload_n 3, 1) := by decide +kernel
theorem dL_earth_1 : decode cL_earth 1 = .ok (.iconst 0, 1) := by decide +kernel
theorem dL_earth_2 : decode cL_earth 2 = .ok (.aload_n 0, 1) := by decide +kernel
theorem dL_earth_3 : decode cL_earth 3 = .ok (.iload_n 1, 1) := by decide +kernel
theorem dL_earth_4 : decode cL_earth 4 = .ok (.iload_n 2, 1) := by decide +kernel
theorem dL_earth_5 : decode cL_earth 5 = .ok (.invokevirtual 26, 3) := by decide +kernel
theorem dL_earth_8 : decode cL_earth 8 = .ok (.i2l, 1) := by decide +kernel
theorem dL_earth_9 : decode cL_earth 9 = .ok (.lastore, 1) := by decide +kernel
theorem dL_earth_10 : decode cL_earth 10 = .ok (.goto 11, 3) := by decide +kernel
theorem dL_earth_13 : decode cL_earth 13 = .ok (.astore 4, 2) := by decide +kernel
theorem dL_earth_15 : decode cL_earth 15 = .ok (.iconst 1, 1) := by decide +kernel
theorem dL_earth_16 : decode cL_earth 16 = .ok (.ireturn, 1) := by decide +kernel
theorem dL_earth_17 : decode cL_earth 17 = .ok (.astore 4, 2) := by decide +kernel
theorem dL_earth_19 : decode cL_earth 19 = .ok (.iconst 2, 1) := by decide +kernel
theorem dL_earth_20 : decode cL_earth 20 = .ok (.ireturn, 1) := by decide +kernel
theorem dL_earth_21 : decode cL_earth 21 = .ok (.iconst 0, 1) := by decide +kernel
theorem dL_earth_22 : decode cL_earth 22 = .ok (.ireturn, 1) := by decide +kernel
set_option maxRecDepth 20000 in
theorem ggL_earthByColumns_X2_earthByColumns : GoodIn wsL_earthByColumns wsX2_earthByColumns := goodIn_ca (goodIn_ca (goodIn_r _ [7, 8, 9, 10, 11, 6, 12, 13, 14, 15, 16, 17, 18, 19, 20, 21, 22, 23, 24, 25, 26, 27, 28, 29, 30, 31, 32, 33, 34, 35, 36, 37] (by decide +kernel) (by decide +kernel)) (goodIn_sub (fun _ h => List.mem_cons_of_mem _ (List.mem_append_left _ (List.mem_append_right _ h))) (by decide +kernel))) (goodIn_sub (fun _ h => List.mem_cons_of_mem _ (List.mem_append_right _ h)) (by decide +kernel))
set_option maxRecDepth 20000 in
theorem gL_earthByColumns_X2_earthByColumns : GoodIn wsL_earthByColumns (wsV RL 29 RX2 yX2_earthByColumns wsX2_earthByColumns) := goodIn_app (goodIn_of _ (by decide +kernel)) ggL_earthByColumns_X2_earthByColumns
theorem dL_earthByColumns_0 : decode cL_earthByColumns 0 = .ok (.aload_n 3, 1) := by decide +kernel
theorem dL_earthByColumns_1 : decode cL_earthByColumns 1 = .ok (.iconst 0, 1) := by decide +kernel
theorem dL_earthByColumns_2 : decode cL_earthByColumns 2 = .ok (.aload_n 0, 1) := by decide +kernel
theorem dL_earthByColumns_3 : decode cL_earthByColumns 3 = .ok (.iload_n 1, 1) := by decide +kernel
theorem dL_earthByColumns_4 : decode cL_earthByColumns 4 = .ok (.iload_n 2, 1) := by decide +kernel
theorem dL_earthByColumns_5 : decode cL_earthByColumns 5 = .ok (.invokevirtual 29, 3) := by decide +kernel
theorem dL_earthByColumns_8 : decode cL_earthByColumns 8 = .ok (.i2l, 1) := by decide +kernel
theorem dL_earthByColumns_9 : decode cL_earthByColumns 9 = .ok (.lastore, 1) := by decide +kernel
theorem dL_earthByColumns_10 : decode cL_earthByColumns 10 = .ok (.goto 11, 3) := by decide +kernel
theorem dL_earthByColumns_13 : decode cL_earthByColumns 13 = .ok (.astore 4, 2) := by decide +kernel
theorem dL_earthByColumns_15 : decode cL_earthByColumns 15 = .ok (.iconst 1, 1) := by decide +kernel
theorem dL_earthByColumns_16 : decode cL_earthByColumns 16 = .ok (.ireturn, 1) := by decide +kernel
theorem dL_earthByColumns_17 : decode cL_earthByColumns 17 = .ok (.astore 4, 2) := by decide +kernel
theorem dL_earthByColumns_19 : decode cL_earthByColumns 19 = .ok (.iconst 2, 1) := by decide +kernel
theorem dL_earthByColumns_20 : decode cL_earthByColumns 20 = .ok (.ireturn, 1) := by decide +kernel
theorem dL_earthByColumns_21 : decode cL_earthByColumns 21 = .ok (.iconst 0, 1) := by decide +kernel
theorem dL_earthByColumns_22 : decode cL_earthByColumns 22 = .ok (.ireturn, 1) := by decide +kernel
set_option maxRecDepth 20000 in
theorem ggL_top_X2_top : GoodIn wsL_top wsX2_top := goodIn_ca (goodIn_ca (goodIn_r _ [7, 8, 9, 10, 11, 6, 12, 13, 14, 15, 16, 17, 18, 19, 20, 21, 22, 23, 24, 25, 26, 27, 28, 29, 30, 31, 32, 33, 34, 35, 36, 37, 38, 39, 40, 41, 42, 43, 44, 45, 46, 47, 48, 49, 50, 51, 52, 53, 54, 55, 56, 57, 58, 59, 60, 61, 62, 63, 64, 65, 66, 67, 68, 69, 70, 71, 72, 73, 74, 75, 76, 77, 78, 79, 80, 81, 82, 83, 84, 85, 86, 87, 88, 89, 90, 91, 92, 93, 94] (by decide +kernel) (by decide +kernel)) (goodIn_sub (fun _ h => List.mem_cons_of_mem _ (List.mem_append_left _ (List.mem_append_right _ h))) (by decide +kernel))) (goodIn_sub (fun _ h => List.mem_cons_of_mem _ (List.mem_append_right _ h)) (by decide +kernel))
set_option maxRecDepth 20000 in
theorem gL_top_X2_top : GoodIn wsL_top (wsV RL 32 RX2 yX2_top wsX2_top) := goodIn_app (goodIn_of _ (by decide +kernel)) ggL_top_X2_top
theorem dL_top_0 : decode cL_top 0 = .ok (.aload_n 3, 1) := by decide +kernel
theorem dL_top_1 : decode cL_top 1 = .ok (.iconst 0, 1) := by decide +kernel
theorem dL_top_2 : decode cL_top 2 = .ok (.aload_n 0, 1) := by decide +kernel
theorem dL_top_3 : decode cL_top 3 = .ok (.iload_n 1, 1) := by decide +kernel
theorem dL_top_4 : decode cL_top 4 = .ok (.iload_n 2, 1) := by decide +kernel
theorem dL_top_5 : decode cL_top 5 = .ok (.invokevirtual 32, 3) := by decide +kernel
theorem dL_top_8 : decode cL_top 8 = .ok (.i2l, 1) := by decide +kernel
theorem dL_top_9 : decode cL_top 9 = .ok (.lastore, 1) := by decide +kernel
theorem dL_top_10 : decode cL_top 10 = .ok (.goto 11, 3) := by decide +kernel
theorem dL_top_13 : decode cL_top 13 = .ok (.astore 4, 2) := by decide +kernel
theorem dL_top_15 : decode cL_top 15 = .ok (.iconst 1, 1) := by decide +kernel
theorem dL_top_16 : decode cL_top 16 = .ok (.ireturn, 1) := by decide +kernel
theorem dL_top_17 : decode cL_top 17 = .ok (.astore 4, 2) := by decide +kernel
theorem dL_top_19 : decode cL_top 19 = .ok (.iconst 2, 1) := by decide +kernel
theorem dL_top_20 : decode cL_top 20 = .ok (.ireturn, 1) := by decide +kernel
theorem dL_top_21 : decode cL_top 21 = .ok (.iconst 0, 1) := by decide +kernel
theorem dL_top_22 : decode cL_top 22 = .ok (.ireturn, 1) := by decide +kernel
set_option maxRecDepth 20000 in
theorem ggL_height_X2_height : GoodIn wsL_height wsX2_height := goodIn_ca (goodIn_r _ [6, 7, 8, 9, 10, 5, 11, 12, 13, 14, 15, 16, 17, 18, 19, 20, 21, 22, 23, 24, 25, 26, 27, 28, 29, 30, 31, 32, 33, 34, 35, 36, 37, 38, 39, 40, 41, 42, 43, 44, 45, 46, 47, 48, 49, 50] (by decide +kernel) (by decide +kernel)) (goodIn_sub (fun _ h => List.mem_cons_of_mem _ (List.mem_append_right _ h)) (by decide +kernel))
set_option maxRecDepth 20000 in
theorem gL_height_X2_height : GoodIn wsL_height (wsV RL 35 RX2 yX2_height wsX2_height) := goodIn_app (goodIn_of _ (by decide +kernel)) ggL_height_X2_height
theorem dL_height_0 : decode cL_height 0 = .ok (.aload_n 2, 1) := by decide +kernel
theorem dL_height_1 : decode cL_height 1 = .ok (.iconst 0, 1) := by decide +kernel
theorem dL_height_2 : decode cL_height 2 = .ok (.aload_n 0, 1) := by decide +kernel
theorem dL_height_3 : decode cL_height 3 = .ok (.iload_n 1, 1) := by decide +kernel
theorem dL_height_4 : decode cL_height 4 = .ok (.invokevirtual 35, 3) := by decide +kernel
theorem dL_height_7 : decode cL_height 7 = .ok (.i2l, 1) := by decide +kernel
theorem dL_height_8 : decode cL_height 8 = .ok (.lastore, 1) := by decide +kernel
theorem dL_height_9 : decode cL_height 9 = .ok (.goto 6, 3) := by decide +kernel
theorem dL_height_12 : decode cL_height 12 = .ok (.astore_n 3, 1) := by decide +kernel
theorem dL_height_13 : decode cL_height 13 = .ok (.iconst 1, 1) := by decide +kernel
theorem dL_height_14 : decode cL_height 14 = .ok (.ireturn, 1) := by decide +kernel
theorem dL_height_15 : decode cL_height 15 = .ok (.iconst 0, 1) := by decide +kernel
theorem dL_height_16 : decode cL_height 16 = .ok (.ireturn, 1) := by decide +kernel
set_option maxRecDepth 20000 in
theorem ggL_heightOfColumn_X2_heightOfColumn : GoodIn wsL_heightOfColumn wsX2_heightOfColumn := goodIn_ca (goodIn_r _ [6, 7, 8, 9, 10, 5, 11, 12, 13, 14, 15, 16, 17, 18, 19, 20] (by decide +kernel) (by decide +kernel)) (goodIn_sub (fun _ h => List.mem_cons_of_mem _ (List.mem_append_right _ h)) (by decide +kernel))
set_option maxRecDepth 20000 in
theorem gL_heightOfColumn_X2_heightOfColumn : GoodIn wsL_heightOfColumn (wsV RL 39 RX2 yX2_heightOfColumn wsX2_heightOfColumn) := goodIn_app (goodIn_of _ (by decide +kernel)) ggL_heightOfColumn_X2_heightOfColumn
theorem dL_heightOfColumn_0 : decode cL_heightOfColumn 0 = .ok (.aload_n 2, 1) := by decide +kernel
theorem dL_heightOfColumn_1 : decode cL_heightOfColumn 1 = .ok (.iconst 0, 1) := by decide +kernel
theorem dL_heightOfColumn_2 : decode cL_heightOfColumn 2 = .ok (.aload_n 0, 1) := by decide +kernel
theorem dL_heightOfColumn_3 : decode cL_heightOfColumn 3 = .ok (.iload_n 1, 1) := by decide +kernel
theorem dL_heightOfColumn_4 : decode cL_heightOfColumn 4 = .ok (.invokevirtual 39, 3) := by decide +kernel
theorem dL_heightOfColumn_7 : decode cL_heightOfColumn 7 = .ok (.i2l, 1) := by decide +kernel
theorem dL_heightOfColumn_8 : decode cL_heightOfColumn 8 = .ok (.lastore, 1) := by decide +kernel
theorem dL_heightOfColumn_9 : decode cL_heightOfColumn 9 = .ok (.goto 6, 3) := by decide +kernel
theorem dL_heightOfColumn_12 : decode cL_heightOfColumn 12 = .ok (.astore_n 3, 1) := by decide +kernel
theorem dL_heightOfColumn_13 : decode cL_heightOfColumn 13 = .ok (.iconst 1, 1) := by decide +kernel
theorem dL_heightOfColumn_14 : decode cL_heightOfColumn 14 = .ok (.ireturn, 1) := by decide +kernel
theorem dL_heightOfColumn_15 : decode cL_heightOfColumn 15 = .ok (.iconst 0, 1) := by decide +kernel
theorem dL_heightOfColumn_16 : decode cL_heightOfColumn 16 = .ok (.ireturn, 1) := by decide +kernel
set_option maxRecDepth 20000 in
theorem ggL_wouldPress_X2_wouldPress : GoodIn wsL_wouldPress wsX2_wouldPress := goodIn_ca (goodIn_ca (goodIn_r _ [7, 8, 9, 10, 11, 6, 12, 13, 14, 15, 16, 17, 18, 19, 20, 21, 22, 23, 24, 25, 26, 27, 28, 29, 30, 31, 32, 33, 34, 35, 36, 37, 38, 39, 40] (by decide +kernel) (by decide +kernel)) (goodIn_sub (fun _ h => List.mem_cons_of_mem _ (List.mem_append_left _ (List.mem_append_right _ h))) (by decide +kernel))) (goodIn_sub (fun _ h => List.mem_cons_of_mem _ (List.mem_append_right _ h)) (by decide +kernel))
set_option maxRecDepth 20000 in
theorem gL_wouldPress_X2_wouldPress : GoodIn wsL_wouldPress (wsV RL 42 RX2 yX2_wouldPress wsX2_wouldPress) := goodIn_app (goodIn_of _ (by decide +kernel)) ggL_wouldPress_X2_wouldPress
theorem dL_wouldPress_0 : decode cL_wouldPress 0 = .ok (.aload 4, 2) := by decide +kernel
theorem dL_wouldPress_2 : decode cL_wouldPress 2 = .ok (.iconst 0, 1) := by decide +kernel
theorem dL_wouldPress_3 : decode cL_wouldPress 3 = .ok (.aload_n 0, 1) := by decide +kernel
theorem dL_wouldPress_4 : decode cL_wouldPress 4 = .ok (.iload_n 1, 1) := by decide +kernel
theorem dL_wouldPress_5 : decode cL_wouldPress 5 = .ok (.iload_n 2, 1) := by decide +kernel
theorem dL_wouldPress_6 : decode cL_wouldPress 6 = .ok (.iload_n 3, 1) := by decide +kernel
theorem dL_wouldPress_7 : decode cL_wouldPress 7 = .ok (.invokevirtual 42, 3) := by decide +kernel
theorem dL_wouldPress_10 : decode cL_wouldPress 10 = .ok (.i2l, 1) := by decide +kernel
theorem dL_wouldPress_11 : decode cL_wouldPress 11 = .ok (.lastore, 1) := by decide +kernel
theorem dL_wouldPress_12 : decode cL_wouldPress 12 = .ok (.goto 11, 3) := by decide +kernel
theorem dL_wouldPress_15 : decode cL_wouldPress 15 = .ok (.astore 5, 2) := by decide +kernel
theorem dL_wouldPress_17 : decode cL_wouldPress 17 = .ok (.iconst 1, 1) := by decide +kernel
theorem dL_wouldPress_18 : decode cL_wouldPress 18 = .ok (.ireturn, 1) := by decide +kernel
theorem dL_wouldPress_19 : decode cL_wouldPress 19 = .ok (.astore 5, 2) := by decide +kernel
theorem dL_wouldPress_21 : decode cL_wouldPress 21 = .ok (.iconst 2, 1) := by decide +kernel
theorem dL_wouldPress_22 : decode cL_wouldPress 22 = .ok (.ireturn, 1) := by decide +kernel
theorem dL_wouldPress_23 : decode cL_wouldPress 23 = .ok (.iconst 0, 1) := by decide +kernel
theorem dL_wouldPress_24 : decode cL_wouldPress 24 = .ok (.ireturn, 1) := by decide +kernel
set_option maxRecDepth 20000 in
theorem ggL_ceilingFor_X2_ceilingFor : GoodIn wsL_ceilingFor wsX2_ceilingFor := goodIn_ca (goodIn_ca (goodIn_ca (goodIn_r _ [8, 9, 10, 11, 12, 13, 14, 15, 7, 16, 17, 18, 19, 20, 21, 22, 23, 24, 25, 26, 27, 28, 29, 30, 31, 32, 33, 34, 35, 36, 37, 38, 39, 40, 41, 42, 43, 44, 45, 46, 47, 48] (by decide +kernel) (by decide +kernel)) (goodIn_sub (fun _ h => List.mem_cons_of_mem _ (List.mem_append_left _ (List.mem_append_left _ (List.mem_append_right _ h)))) (by decide +kernel))) (goodIn_sub (fun _ h => List.mem_cons_of_mem _ (List.mem_append_left _ (List.mem_append_right _ h))) (by decide +kernel))) (goodIn_sub (fun _ h => List.mem_cons_of_mem _ (List.mem_append_right _ h)) (by decide +kernel))
set_option maxRecDepth 20000 in
theorem gL_ceilingFor_X2_ceilingFor : GoodIn wsL_ceilingFor (wsV RL 45 RX2 yX2_ceilingFor wsX2_ceilingFor) := goodIn_app (goodIn_of _ (by decide +kernel)) ggL_ceilingFor_X2_ceilingFor
theorem dL_ceilingFor_0 : decode cL_ceilingFor 0 = .ok (.aload 4, 2) := by decide +kernel
theorem dL_ceilingFor_2 : decode cL_ceilingFor 2 = .ok (.iconst 0, 1) := by decide +kernel
theorem dL_ceilingFor_3 : decode cL_ceilingFor 3 = .ok (.aload_n 0, 1) := by decide +kernel
theorem dL_ceilingFor_4 : decode cL_ceilingFor 4 = .ok (.iload_n 1, 1) := by decide +kernel
theorem dL_ceilingFor_5 : decode cL_ceilingFor 5 = .ok (.iload_n 2, 1) := by decide +kernel
theorem dL_ceilingFor_6 : decode cL_ceilingFor 6 = .ok (.iload_n 3, 1) := by decide +kernel
theorem dL_ceilingFor_7 : decode cL_ceilingFor 7 = .ok (.invokevirtual 45, 3) := by decide +kernel
theorem dL_ceilingFor_10 : decode cL_ceilingFor 10 = .ok (.i2l, 1) := by decide +kernel
theorem dL_ceilingFor_11 : decode cL_ceilingFor 11 = .ok (.lastore, 1) := by decide +kernel
theorem dL_ceilingFor_12 : decode cL_ceilingFor 12 = .ok (.goto 15, 3) := by decide +kernel
theorem dL_ceilingFor_15 : decode cL_ceilingFor 15 = .ok (.astore 5, 2) := by decide +kernel
theorem dL_ceilingFor_17 : decode cL_ceilingFor 17 = .ok (.iconst 1, 1) := by decide +kernel
theorem dL_ceilingFor_18 : decode cL_ceilingFor 18 = .ok (.ireturn, 1) := by decide +kernel
theorem dL_ceilingFor_19 : decode cL_ceilingFor 19 = .ok (.astore 5, 2) := by decide +kernel
theorem dL_ceilingFor_21 : decode cL_ceilingFor 21 = .ok (.iconst 2, 1) := by decide +kernel
theorem dL_ceilingFor_22 : decode cL_ceilingFor 22 = .ok (.ireturn, 1) := by decide +kernel
theorem dL_ceilingFor_23 : decode cL_ceilingFor 23 = .ok (.astore 5, 2) := by decide +kernel
theorem dL_ceilingFor_25 : decode cL_ceilingFor 25 = .ok (.iconst 3, 1) := by decide +kernel
theorem dL_ceilingFor_26 : decode cL_ceilingFor 26 = .ok (.ireturn, 1) := by decide +kernel
theorem dL_ceilingFor_27 : decode cL_ceilingFor 27 = .ok (.iconst 0, 1) := by decide +kernel
theorem dL_ceilingFor_28 : decode cL_ceilingFor 28 = .ok (.ireturn, 1) := by decide +kernel
set_option maxRecDepth 20000 in
theorem ggL_ceilingOver_X2_ceilingOver : GoodIn wsL_ceilingOver wsX2_ceilingOver := goodIn_ca (goodIn_ca (goodIn_r _ [7, 8, 9, 10, 11, 12, 13, 6, 14, 15, 16, 17, 18, 19, 20, 21, 22, 23] (by decide +kernel) (by decide +kernel)) (goodIn_sub (fun _ h => List.mem_cons_of_mem _ (List.mem_append_left _ (List.mem_append_right _ h))) (by decide +kernel))) (goodIn_sub (fun _ h => List.mem_cons_of_mem _ (List.mem_append_right _ h)) (by decide +kernel))
set_option maxRecDepth 20000 in
theorem gL_ceilingOver_X2_ceilingOver : GoodIn wsL_ceilingOver (wsV RL 50 RX2 yX2_ceilingOver wsX2_ceilingOver) := goodIn_app (goodIn_of _ (by decide +kernel)) ggL_ceilingOver_X2_ceilingOver
theorem dL_ceilingOver_0 : decode cL_ceilingOver 0 = .ok (.aload_n 2, 1) := by decide +kernel
theorem dL_ceilingOver_1 : decode cL_ceilingOver 1 = .ok (.iconst 0, 1) := by decide +kernel
theorem dL_ceilingOver_2 : decode cL_ceilingOver 2 = .ok (.aload_n 0, 1) := by decide +kernel
theorem dL_ceilingOver_3 : decode cL_ceilingOver 3 = .ok (.iload_n 1, 1) := by decide +kernel
theorem dL_ceilingOver_4 : decode cL_ceilingOver 4 = .ok (.invokevirtual 50, 3) := by decide +kernel
theorem dL_ceilingOver_7 : decode cL_ceilingOver 7 = .ok (.i2l, 1) := by decide +kernel
theorem dL_ceilingOver_8 : decode cL_ceilingOver 8 = .ok (.lastore, 1) := by decide +kernel
theorem dL_ceilingOver_9 : decode cL_ceilingOver 9 = .ok (.goto 9, 3) := by decide +kernel
theorem dL_ceilingOver_12 : decode cL_ceilingOver 12 = .ok (.astore_n 3, 1) := by decide +kernel
theorem dL_ceilingOver_13 : decode cL_ceilingOver 13 = .ok (.iconst 1, 1) := by decide +kernel
theorem dL_ceilingOver_14 : decode cL_ceilingOver 14 = .ok (.ireturn, 1) := by decide +kernel
theorem dL_ceilingOver_15 : decode cL_ceilingOver 15 = .ok (.astore_n 3, 1) := by decide +kernel
theorem dL_ceilingOver_16 : decode cL_ceilingOver 16 = .ok (.iconst 2, 1) := by decide +kernel
theorem dL_ceilingOver_17 : decode cL_ceilingOver 17 = .ok (.ireturn, 1) := by decide +kernel
theorem dL_ceilingOver_18 : decode cL_ceilingOver 18 = .ok (.iconst 0, 1) := by decide +kernel
theorem dL_ceilingOver_19 : decode cL_ceilingOver 19 = .ok (.ireturn, 1) := by decide +kernel
set_option maxRecDepth 20000 in
theorem ggL_spanOf_X2_spanOf : GoodIn wsL_spanOf wsX2_spanOf := goodIn_ca (goodIn_r _ [6, 7, 8, 9, 10, 5, 11, 12, 13, 14, 15, 16, 17, 18, 19, 20, 21, 22, 23, 24, 25, 26, 27, 28, 29, 30, 31] (by decide +kernel) (by decide +kernel)) (goodIn_sub (fun _ h => List.mem_cons_of_mem _ (List.mem_append_right _ h)) (by decide +kernel))
set_option maxRecDepth 20000 in
theorem gL_spanOf_X2_spanOf : GoodIn wsL_spanOf (wsV RL 53 RX2 yX2_spanOf wsX2_spanOf) := goodIn_app (goodIn_of _ (by decide +kernel)) ggL_spanOf_X2_spanOf
theorem dL_spanOf_0 : decode cL_spanOf 0 = .ok (.aload_n 2, 1) := by decide +kernel
theorem dL_spanOf_1 : decode cL_spanOf 1 = .ok (.iconst 0, 1) := by decide +kernel
theorem dL_spanOf_2 : decode cL_spanOf 2 = .ok (.aload_n 0, 1) := by decide +kernel
theorem dL_spanOf_3 : decode cL_spanOf 3 = .ok (.iload_n 1, 1) := by decide +kernel
theorem dL_spanOf_4 : decode cL_spanOf 4 = .ok (.invokevirtual 53, 3) := by decide +kernel
theorem dL_spanOf_7 : decode cL_spanOf 7 = .ok (.i2l, 1) := by decide +kernel
theorem dL_spanOf_8 : decode cL_spanOf 8 = .ok (.lastore, 1) := by decide +kernel
theorem dL_spanOf_9 : decode cL_spanOf 9 = .ok (.goto 6, 3) := by decide +kernel
theorem dL_spanOf_12 : decode cL_spanOf 12 = .ok (.astore_n 3, 1) := by decide +kernel
theorem dL_spanOf_13 : decode cL_spanOf 13 = .ok (.iconst 1, 1) := by decide +kernel
theorem dL_spanOf_14 : decode cL_spanOf 14 = .ok (.ireturn, 1) := by decide +kernel
theorem dL_spanOf_15 : decode cL_spanOf 15 = .ok (.iconst 0, 1) := by decide +kernel
theorem dL_spanOf_16 : decode cL_spanOf 16 = .ok (.ireturn, 1) := by decide +kernel
set_option maxRecDepth 20000 in
theorem ggL_greatest_X2_greatest : GoodIn wsL_greatest wsX2_greatest := goodIn_ca (goodIn_r _ [6, 7, 8, 9, 10, 5, 11, 12, 13, 14, 15, 16, 17, 18, 19, 20, 21, 22, 23, 24, 25, 26, 27, 28, 29, 30, 31] (by decide +kernel) (by decide +kernel)) (goodIn_sub (fun _ h => List.mem_cons_of_mem _ (List.mem_append_right _ h)) (by decide +kernel))
set_option maxRecDepth 20000 in
theorem gL_greatest_X2_greatest : GoodIn wsL_greatest (wsV RL 56 RX2 yX2_greatest wsX2_greatest) := goodIn_app (goodIn_of _ (by decide +kernel)) ggL_greatest_X2_greatest
theorem dL_greatest_0 : decode cL_greatest 0 = .ok (.aload_n 2, 1) := by decide +kernel
theorem dL_greatest_1 : decode cL_greatest 1 = .ok (.iconst 0, 1) := by decide +kernel
theorem dL_greatest_2 : decode cL_greatest 2 = .ok (.aload_n 0, 1) := by decide +kernel
theorem dL_greatest_3 : decode cL_greatest 3 = .ok (.iload_n 1, 1) := by decide +kernel
theorem dL_greatest_4 : decode cL_greatest 4 = .ok (.invokevirtual 56, 3) := by decide +kernel
theorem dL_greatest_7 : decode cL_greatest 7 = .ok (.i2l, 1) := by decide +kernel
theorem dL_greatest_8 : decode cL_greatest 8 = .ok (.lastore, 1) := by decide +kernel
theorem dL_greatest_9 : decode cL_greatest 9 = .ok (.goto 6, 3) := by decide +kernel
theorem dL_greatest_12 : decode cL_greatest 12 = .ok (.astore_n 3, 1) := by decide +kernel
theorem dL_greatest_13 : decode cL_greatest 13 = .ok (.iconst 1, 1) := by decide +kernel
theorem dL_greatest_14 : decode cL_greatest 14 = .ok (.ireturn, 1) := by decide +kernel
theorem dL_greatest_15 : decode cL_greatest 15 = .ok (.iconst 0, 1) := by decide +kernel
theorem dL_greatest_16 : decode cL_greatest 16 = .ok (.ireturn, 1) := by decide +kernel
set_option maxRecDepth 20000 in
theorem ggL_second_X2_second : GoodIn wsL_second wsX2_second := goodIn_ca (goodIn_r _ [6, 7, 8, 9, 10, 5, 11, 12, 13, 14, 15, 16, 17, 18, 19, 20, 21, 22, 23, 24, 25, 26, 27, 28, 29, 30, 31] (by decide +kernel) (by decide +kernel)) (goodIn_sub (fun _ h => List.mem_cons_of_mem _ (List.mem_append_right _ h)) (by decide +kernel))
set_option maxRecDepth 20000 in
theorem gL_second_X2_second : GoodIn wsL_second (wsV RL 59 RX2 yX2_second wsX2_second) := goodIn_app (goodIn_of _ (by decide +kernel)) ggL_second_X2_second
theorem dL_second_0 : decode cL_second 0 = .ok (.aload_n 2, 1) := by decide +kernel
theorem dL_second_1 : decode cL_second 1 = .ok (.iconst 0, 1) := by decide +kernel
theorem dL_second_2 : decode cL_second 2 = .ok (.aload_n 0, 1) := by decide +kernel
theorem dL_second_3 : decode cL_second 3 = .ok (.iload_n 1, 1) := by decide +kernel
theorem dL_second_4 : decode cL_second 4 = .ok (.invokevirtual 59, 3) := by decide +kernel
theorem dL_second_7 : decode cL_second 7 = .ok (.i2l, 1) := by decide +kernel
theorem dL_second_8 : decode cL_second 8 = .ok (.lastore, 1) := by decide +kernel
theorem dL_second_9 : decode cL_second 9 = .ok (.goto 6, 3) := by decide +kernel
theorem dL_second_12 : decode cL_second 12 = .ok (.astore_n 3, 1) := by decide +kernel
theorem dL_second_13 : decode cL_second 13 = .ok (.iconst 1, 1) := by decide +kernel
theorem dL_second_14 : decode cL_second 14 = .ok (.ireturn, 1) := by decide +kernel
theorem dL_second_15 : decode cL_second 15 = .ok (.iconst 0, 1) := by decide +kernel
theorem dL_second_16 : decode cL_second 16 = .ok (.ireturn, 1) := by decide +kernel
set_option maxRecDepth 20000 in
theorem ggL_many_X2_many : GoodIn wsL_many wsX2_many := goodIn_ca (goodIn_r _ [6, 7, 8, 9, 10, 5, 11, 12, 13, 14, 15, 16, 17, 18, 19, 20, 21, 22, 23, 24, 25, 26, 27, 28, 29, 30, 31] (by decide +kernel) (by decide +kernel)) (goodIn_sub (fun _ h => List.mem_cons_of_mem _ (List.mem_append_right _ h)) (by decide +kernel))
set_option maxRecDepth 20000 in
theorem gL_many_X2_many : GoodIn wsL_many (wsV RL 62 RX2 yX2_many wsX2_many) := goodIn_app (goodIn_of _ (by decide +kernel)) ggL_many_X2_many
theorem dL_many_0 : decode cL_many 0 = .ok (.aload_n 2, 1) := by decide +kernel
theorem dL_many_1 : decode cL_many 1 = .ok (.iconst 0, 1) := by decide +kernel
theorem dL_many_2 : decode cL_many 2 = .ok (.aload_n 0, 1) := by decide +kernel
theorem dL_many_3 : decode cL_many 3 = .ok (.iload_n 1, 1) := by decide +kernel
theorem dL_many_4 : decode cL_many 4 = .ok (.invokevirtual 62, 3) := by decide +kernel
theorem dL_many_7 : decode cL_many 7 = .ok (.i2l, 1) := by decide +kernel
theorem dL_many_8 : decode cL_many 8 = .ok (.lastore, 1) := by decide +kernel
theorem dL_many_9 : decode cL_many 9 = .ok (.goto 6, 3) := by decide +kernel
theorem dL_many_12 : decode cL_many 12 = .ok (.astore_n 3, 1) := by decide +kernel
theorem dL_many_13 : decode cL_many 13 = .ok (.iconst 1, 1) := by decide +kernel
theorem dL_many_14 : decode cL_many 14 = .ok (.ireturn, 1) := by decide +kernel
theorem dL_many_15 : decode cL_many 15 = .ok (.iconst 0, 1) := by decide +kernel
theorem dL_many_16 : decode cL_many 16 = .ok (.ireturn, 1) := by decide +kernel
set_option maxRecDepth 20000 in
theorem ggL_noted_X2_noted : GoodIn wsL_noted wsX2_noted := goodIn_ca (goodIn_r _ [6, 7, 8, 9, 10, 5, 11, 12, 13, 14, 15, 16, 17, 18, 19, 20, 21, 22, 23, 24, 25, 26, 27, 28, 29, 30, 31] (by decide +kernel) (by decide +kernel)) (goodIn_sub (fun _ h => List.mem_cons_of_mem _ (List.mem_append_right _ h)) (by decide +kernel))
set_option maxRecDepth 20000 in
theorem gL_noted_X2_noted : GoodIn wsL_noted (wsV RL 65 RX2 yX2_noted wsX2_noted) := goodIn_app (goodIn_of _ (by decide +kernel)) ggL_noted_X2_noted
theorem dL_noted_0 : decode cL_noted 0 = .ok (.aload_n 2, 1) := by decide +kernel
theorem dL_noted_1 : decode cL_noted 1 = .ok (.iconst 0, 1) := by decide +kernel
theorem dL_noted_2 : decode cL_noted 2 = .ok (.aload_n 0, 1) := by decide +kernel
theorem dL_noted_3 : decode cL_noted 3 = .ok (.iload_n 1, 1) := by decide +kernel
theorem dL_noted_4 : decode cL_noted 4 = .ok (.invokevirtual 65, 3) := by decide +kernel
theorem dL_noted_7 : decode cL_noted 7 = .ok (.i2l, 1) := by decide +kernel
theorem dL_noted_8 : decode cL_noted 8 = .ok (.lastore, 1) := by decide +kernel
theorem dL_noted_9 : decode cL_noted 9 = .ok (.goto 6, 3) := by decide +kernel
theorem dL_noted_12 : decode cL_noted 12 = .ok (.astore_n 3, 1) := by decide +kernel
theorem dL_noted_13 : decode cL_noted 13 = .ok (.iconst 1, 1) := by decide +kernel
theorem dL_noted_14 : decode cL_noted 14 = .ok (.ireturn, 1) := by decide +kernel
theorem dL_noted_15 : decode cL_noted 15 = .ok (.iconst 0, 1) := by decide +kernel
theorem dL_noted_16 : decode cL_noted 16 = .ok (.ireturn, 1) := by decide +kernel
set_option maxRecDepth 20000 in
theorem ggL_law_X2_init : GoodIn wsL_law wsX2_init := goodIn_r _ [9, 10, 11, 12, 13, 14, 15, 16, 17, 18, 19, 20, 21, 22, 23, 24, 25, 26, 27, 28, 29, 30, 31, 32, 33, 34, 35, 36, 37, 38, 39, 40, 41, 42, 43, 44, 45, 46, 47, 48, 49, 50, 51, 52, 53, 54, 55, 56, 57, 58, 59, 60, 61, 541, 542, 543, 544, 545, 546, 547, 548, 549, 520, 521, 522, 550, 551, 552, 553] (by decide +kernel) (by decide +kernel)
set_option maxRecDepth 20000 in
theorem gL_law_X2_init : GoodIn wsL_law (wsX2_init) := ggL_law_X2_init
set_option maxRecDepth 20000 in
theorem ggL_law_X3_init : GoodIn wsL_law wsX3_init := goodIn_r _ [64, 65, 11, 12, 25, 66, 67, 68, 69, 70, 71, 72, 73, 74, 75, 76, 77, 5, 78, 79, 80, 81, 82, 83, 84, 85, 523, 524, 525, 526, 527, 528, 529, 530, 531, 532, 533, 534, 535, 536, 537, 538, 539, 540] (by decide +kernel) (by decide +kernel)
set_option maxRecDepth 20000 in
theorem gL_law_X3_init : GoodIn wsL_law (wsX3_init) := ggL_law_X3_init
set_option maxRecDepth 20000 in
theorem ggL_law_L_layOut : GoodIn wsL_law wsL_layOut := goodIn_ca (goodIn_r _ [89, 90, 91, 92, 93, 2, 94, 16, 20, 21, 95, 96, 97, 98, 99, 37, 38, 39, 15, 40, 27, 26, 28, 29, 30, 31, 41, 42, 43, 44, 45, 46, 47, 48, 49, 50, 51, 52, 53, 54, 55, 56, 57, 58, 19, 59, 60, 61, 35, 36, 520, 521, 522, 541, 542, 543, 544, 545, 546, 547, 548, 549, 550, 551, 552, 553] (by decide +kernel) (by decide +kernel)) (goodIn_sub (fun _ h => List.mem_append_left _ (List.mem_append_left _ (List.mem_append_left _ (List.mem_append_right _ h)))) (by decide +kernel))
set_option maxRecDepth 20000 in
theorem gL_law_L_layOut : GoodIn wsL_law (va_wsS RL 72 yL_layOut wsL_layOut) := goodIn_app (goodIn_of _ (by decide +kernel)) ggL_law_L_layOut
set_option maxRecDepth 20000 in
theorem ggL_law_X3_layOut : GoodIn wsL_law wsX3_layOut := goodIn_r _ [103, 83, 104, 105, 5, 106, 107, 108, 109, 110, 111, 75, 76, 77, 78, 79, 66, 67, 68, 69, 70, 71, 72, 73, 80, 81, 82, 84, 85, 523, 524, 525, 526, 527, 528, 529, 530, 531, 532, 533, 534, 535, 536, 537, 538, 539, 540] (by decide +kernel) (by decide +kernel)
set_option maxRecDepth 20000 in
theorem gL_law_X3_layOut : GoodIn wsL_law (wsV RL 77 RX3 yX3_layOut wsX3_layOut) := goodIn_app (goodIn_of _ (by decide +kernel)) ggL_law_X3_layOut
set_option maxRecDepth 20000 in
theorem ggL_law_X3_thrown : GoodIn wsL_law wsX3_thrown := goodIn_r _ [115, 111, 523, 524, 525, 526, 527, 528, 529, 530, 531, 532, 533, 534, 535, 536, 537, 538, 539, 540] (by decide +kernel) (by decide +kernel)
set_option maxRecDepth 20000 in
theorem gL_law_X3_thrown : GoodIn wsL_law (wsV RL 78 RX3 yX3_thrown wsX3_thrown) := goodIn_app (goodIn_of _ (by decide +kernel)) ggL_law_X3_thrown
set_option maxRecDepth 20000 in
theorem ggL_law_L_pile : GoodIn wsL_law wsL_pile := goodIn_ca (goodIn_ca (goodIn_ca (goodIn_r _ [118, 119, 90, 120, 121, 122, 123, 2, 124, 125, 126, 20, 16, 127, 128, 129, 130, 131, 132, 95, 96, 97, 98, 99, 133, 134, 135, 19, 136, 35, 36, 61, 137, 138, 139, 15, 140, 141, 142, 143, 144, 43, 41, 145, 146, 147, 148, 28, 31, 27, 149, 150, 151, 152, 42, 52, 53, 54, 55, 26, 153, 154, 155, 156, 157, 158, 159, 160, 161, 162, 163, 164, 165, 166, 167, 168, 30, 169, 170, 171, 172, 173, 174, 175, 176, 29, 177, 178, 179, 180, 181, 182, 183, 184, 520, 521, 522, 550, 551, 552, 553, 541, 542, 543, 544, 545, 546, 547, 548, 549] (by decide +kernel) (by decide +kernel)) (goodIn_sub (fun _ h => List.mem_append_left _ (List.mem_append_left _ (List.mem_append_right _ h))) (by decide +kernel))) (goodIn_sub (fun _ h => List.mem_append_left _ (List.mem_append_right _ h)) (by decide +kernel))) (goodIn_sub (fun _ h => List.mem_append_left _ (List.mem_append_left _ (List.mem_append_left _ (List.mem_append_right _ h)))) (by decide +kernel))
set_option maxRecDepth 20000 in
theorem gL_law_L_pile : GoodIn wsL_law (va_wsS RL 82 yL_pile wsL_pile) := goodIn_app (goodIn_of _ (by decide +kernel)) ggL_law_L_pile
set_option maxRecDepth 20000 in
theorem ggL_law_X3_pile : GoodIn wsL_law wsX3_pile := goodIn_r _ [188, 66, 68, 69, 70, 73, 84, 67, 189, 190, 191, 5, 192, 79, 104, 105, 106, 107, 108, 109, 110, 111, 193, 194, 195, 196, 80, 82, 197, 74, 198, 199, 200, 201, 81, 202, 203, 204, 205, 206, 207, 208, 209, 72, 210, 211, 212, 213, 71, 523, 524, 525, 526, 527, 528, 529, 530, 531, 532, 533, 534, 535, 536, 537, 538, 539, 540] (by decide +kernel) (by decide +kernel)
set_option maxRecDepth 20000 in
theorem gL_law_X3_pile : GoodIn wsL_law (wsV RL 84 RX3 yX3_pile wsX3_pile) := goodIn_app (goodIn_of _ (by decide +kernel)) ggL_law_X3_pile
set_option maxRecDepth 20000 in
theorem ggL_law_L_lower : GoodIn wsL_law wsL_lower := goodIn_ca (goodIn_ca (goodIn_r _ [216, 119, 90, 217, 218, 219, 2, 220, 16, 20, 21, 221, 222, 223, 224, 98, 99, 127, 128, 129, 130, 131, 132, 95, 96, 97, 225, 226, 227, 15, 228, 31, 141, 142, 143, 144, 43, 41, 229, 230, 231, 232, 28, 29, 149, 150, 151, 152, 42, 233, 234, 235, 236, 27, 26, 237, 238, 239, 240, 52, 53, 54, 55, 165, 166, 167, 168, 30, 153, 154, 155, 156, 157, 158, 159, 160, 161, 162, 163, 164, 169, 170, 171, 172, 173, 174, 175, 176, 177, 178, 179, 180, 181, 182, 183, 184, 241, 242, 243, 19, 244, 35, 245, 246, 247, 36, 520, 521, 522, 550, 551, 552, 553, 541, 542, 543, 544, 545, 546, 547, 548, 549] (by decide +kernel) (by decide +kernel)) (goodIn_sub (fun _ h => List.mem_append_left _ (List.mem_append_left _ (List.mem_append_left _ (List.mem_append_right _ h)))) (by decide +kernel))) (goodIn_sub (fun _ h => List.mem_append_left _ (List.mem_append_right _ h)) (by decide +kernel))
set_option maxRecDepth 20000 in
theorem gL_law_L_lower : GoodIn wsL_law (va_wsS RL 85 yL_lower wsL_lower) := goodIn_app (goodIn_of _ (by decide +kernel)) ggL_law_L_lower
set_option maxRecDepth 20000 in
theorem ggL_law_X3_lower : GoodIn wsL_law wsX3_lower := goodIn_r _ [251, 197, 74, 68, 69, 70, 71, 66, 67, 85, 252, 253, 254, 5, 255, 189, 190, 191, 192, 79, 104, 105, 106, 107, 108, 109, 110, 111, 193, 194, 195, 196, 80, 82, 210, 211, 212, 213, 72, 73, 198, 199, 200, 201, 81, 206, 207, 208, 209, 256, 257, 258, 259, 202, 203, 204, 205, 260, 261, 262, 263, 523, 524, 525, 526, 527, 528, 529, 530, 531, 532, 533, 534, 535, 536, 537, 538, 539, 540] (by decide +kernel) (by decide +kernel)
set_option maxRecDepth 20000 in
theorem gL_law_X3_lower : GoodIn wsL_law (wsV RL 88 RX3 yX3_lower wsX3_lower) := goodIn_app (goodIn_of _ (by decide +kernel)) ggL_law_X3_lower
set_option maxRecDepth 20000 in
theorem ggL_law_L_earth : GoodIn wsL_law wsL_earth := goodIn_ca (goodIn_ca (goodIn_r _ [266, 119, 90, 267, 268, 269, 2, 270, 16, 221, 222, 223, 224, 98, 99, 127, 128, 129, 130, 131, 132, 20, 271, 272, 273, 15, 274, 141, 142, 143, 144, 43, 41, 275, 276, 277, 278, 31, 149, 150, 151, 152, 42, 233, 234, 235, 236, 27, 26, 237, 238, 239, 240, 52, 53, 54, 55, 153, 154, 155, 156, 157, 158, 159, 160, 28, 161, 162, 163, 164, 165, 166, 167, 168, 30, 520, 521, 522, 550, 551, 552, 553, 541, 542, 543, 544, 545, 546, 547, 548, 549] (by decide +kernel) (by decide +kernel)) (goodIn_sub (fun _ h => List.mem_append_left _ (List.mem_append_left _ (List.mem_append_left _ (List.mem_append_right _ h)))) (by decide +kernel))) (goodIn_sub (fun _ h => List.mem_append_left _ (List.mem_append_right _ h)) (by decide +kernel))
set_option maxRecDepth 20000 in
theorem gL_law_L_earth : GoodIn wsL_law (va_wsS RL 89 yL_earth wsL_earth) := goodIn_app (goodIn_of _ (by decide +kernel)) ggL_law_L_earth
set_option maxRecDepth 20000 in
theorem ggL_law_X3_earth : GoodIn wsL_law wsX3_earth := goodIn_r _ [282, 252, 253, 254, 5, 255, 189, 190, 191, 192, 79, 104, 105, 106, 107, 108, 109, 110, 111, 283, 284, 285, 286, 197, 74, 68, 69, 73, 70, 193, 194, 195, 196, 80, 82, 198, 199, 200, 201, 81, 256, 257, 258, 259, 202, 203, 204, 205, 206, 207, 208, 209, 72, 523, 524, 525, 526, 527, 528, 529, 530, 531, 532, 533, 534, 535, 536, 537, 538, 539, 540] (by decide +kernel) (by decide +kernel)
set_option maxRecDepth 20000 in
theorem gL_law_X3_earth : GoodIn wsL_law (wsV RL 91 RX3 yX3_earth wsX3_earth) := goodIn_app (goodIn_of _ (by decide +kernel)) ggL_law_X3_earth
set_option maxRecDepth 20000 in
theorem ggL_law_L_earthByColumns : GoodIn wsL_law wsL_earthByColumns := goodIn_ca (goodIn_ca (goodIn_r _ [289, 119, 90, 290, 291, 292, 2, 293, 20, 221, 222, 223, 224, 98, 99, 127, 128, 129, 130, 131, 132, 294, 295, 296, 19, 297, 35, 298, 174, 175, 176, 520, 521, 522, 550, 551, 552, 553] (by decide +kernel) (by decide +kernel)) (goodIn_sub (fun _ h => List.mem_append_left _ (List.mem_append_left _ (List.mem_append_left _ (List.mem_append_right _ h)))) (by decide +kernel))) (goodIn_sub (fun _ h => List.mem_append_left _ (List.mem_append_right _ h)) (by decide +kernel))
set_option maxRecDepth 20000 in
theorem gL_law_L_earthByColumns : GoodIn wsL_law (va_wsS RL 92 yL_earthByColumns wsL_earthByColumns) := goodIn_app (goodIn_of _ (by decide +kernel)) ggL_law_L_earthByColumns
set_option maxRecDepth 20000 in
theorem ggL_law_X3_earthByColumns : GoodIn wsL_law wsX3_earthByColumns := goodIn_r _ [302, 252, 253, 254, 5, 255, 189, 190, 191, 192, 79, 104, 105, 106, 107, 108, 109, 110, 111, 260, 261, 262, 263, 66, 523, 524, 525, 526, 527, 528, 529, 530, 531, 532, 533, 534, 535, 536, 537, 538, 539, 540] (by decide +kernel) (by decide +kernel)
set_option maxRecDepth 20000 in
theorem gL_law_X3_earthByColumns : GoodIn wsL_law (wsV RL 94 RX3 yX3_earthByColumns wsX3_earthByColumns) := goodIn_app (goodIn_of _ (by decide +kernel)) ggL_law_X3_earthByColumns
set_option maxRecDepth 20000 in
theorem ggL_law_L_top : GoodIn wsL_law wsL_top := goodIn_ca (goodIn_ca (goodIn_r _ [305, 119, 90, 306, 307, 308, 2, 309, 16, 221, 222, 223, 224, 98, 99, 127, 128, 129, 130, 131, 132, 20, 310, 311, 312, 15, 313, 141, 142, 143, 144, 43, 41, 314, 315, 316, 317, 28, 173, 174, 175, 176, 149, 150, 151, 152, 42, 233, 234, 235, 236, 27, 26, 237, 238, 239, 240, 52, 53, 54, 55, 153, 154, 155, 156, 157, 158, 159, 160, 161, 162, 163, 164, 165, 166, 167, 168, 31, 30, 520, 521, 522, 550, 551, 552, 553, 541, 542, 543, 544, 545, 546, 547, 548, 549] (by decide +kernel) (by decide +kernel)) (goodIn_sub (fun _ h => List.mem_append_left _ (List.mem_append_left _ (List.mem_append_left _ (List.mem_append_right _ h)))) (by decide +kernel))) (goodIn_sub (fun _ h => List.mem_append_left _ (List.mem_append_right _ h)) (by decide +kernel))
set_option maxRecDepth 20000 in
theorem gL_law_L_top : GoodIn wsL_law (va_wsS RL 95 yL_top wsL_top) := goodIn_app (goodIn_of _ (by decide +kernel)) ggL_law_L_top
set_option maxRecDepth 20000 in
theorem ggL_law_X3_top : GoodIn wsL_law wsX3_top := goodIn_r _ [321, 252, 253, 254, 5, 255, 189, 190, 191, 192, 79, 104, 105, 106, 107, 108, 109, 110, 111, 283, 284, 285, 286, 197, 74, 68, 69, 73, 70, 193, 194, 195, 196, 80, 82, 198, 199, 200, 201, 81, 256, 257, 258, 259, 202, 203, 204, 205, 206, 207, 208, 209, 72, 523, 524, 525, 526, 527, 528, 529, 530, 531, 532, 533, 534, 535, 536, 537, 538, 539, 540] (by decide +kernel) (by decide +kernel)
set_option maxRecDepth 20000 in
theorem gL_law_X3_top : GoodIn wsL_law (wsV RL 97 RX3 yX3_top wsX3_top) := goodIn_app (goodIn_of _ (by decide +kernel)) ggL_law_X3_top
set_option maxRecDepth 20000 in
theorem ggL_law_L_height : GoodIn wsL_law wsL_height := goodIn_ca (goodIn_r _ [324, 119, 325, 326, 327, 2, 328, 16, 127, 128, 129, 130, 131, 132, 20, 329, 330, 331, 15, 332, 28, 333, 246, 175, 247, 334, 335, 336, 337, 27, 233, 234, 235, 236, 26, 520, 521, 522, 550, 551, 552, 553, 541, 542, 543, 544, 545, 546, 547, 548, 549] (by decide +kernel) (by decide +kernel)) (goodIn_sub (fun _ h => List.mem_append_left _ (List.mem_append_right _ h)) (by decide +kernel))
set_option maxRecDepth 20000 in
theorem gL_law_L_height : GoodIn wsL_law (va_wsS RL 98 yL_height wsL_height) := goodIn_app (goodIn_of _ (by decide +kernel)) ggL_law_L_height
set_option maxRecDepth 20000 in
theorem ggL_law_X3_height : GoodIn wsL_law wsX3_height := goodIn_r _ [341, 66, 189, 190, 191, 5, 192, 79, 104, 105, 106, 107, 108, 109, 110, 111, 523, 524, 525, 526, 527, 528, 529, 530, 531, 532, 533, 534, 535, 536, 537, 538, 539, 540] (by decide +kernel) (by decide +kernel)
set_option maxRecDepth 20000 in
theorem gL_law_X3_height : GoodIn wsL_law (wsV RL 101 RX3 yX3_height wsX3_height) := goodIn_app (goodIn_of _ (by decide +kernel)) ggL_law_X3_height
set_option maxRecDepth 20000 in
theorem ggL_law_L_heightOfColumn : GoodIn wsL_law wsL_heightOfColumn := goodIn_ca (goodIn_r _ [344, 119, 345, 346, 347, 2, 348, 20, 127, 128, 129, 130, 131, 132, 520, 521, 522, 550, 551, 552, 553] (by decide +kernel) (by decide +kernel)) (goodIn_sub (fun _ h => List.mem_append_left _ (List.mem_append_right _ h)) (by decide +kernel))
set_option maxRecDepth 20000 in
theorem gL_law_L_heightOfColumn : GoodIn wsL_law (va_wsS RL 102 yL_heightOfColumn wsL_heightOfColumn) := goodIn_app (goodIn_of _ (by decide +kernel)) ggL_law_L_heightOfColumn
set_option maxRecDepth 20000 in
theorem ggL_law_X3_heightOfColumn : GoodIn wsL_law wsX3_heightOfColumn := goodIn_r _ [352, 66, 189, 190, 191, 5, 192, 79, 104, 105, 106, 107, 108, 109, 110, 111, 523, 524, 525, 526, 527, 528, 529, 530, 531, 532, 533, 534, 535, 536, 537, 538, 539, 540] (by decide +kernel) (by decide +kernel)
set_option maxRecDepth 20000 in
theorem gL_law_X3_heightOfColumn : GoodIn wsL_law (wsV RL 104 RX3 yX3_heightOfColumn wsX3_heightOfColumn) := goodIn_app (goodIn_of _ (by decide +kernel)) ggL_law_X3_heightOfColumn
set_option maxRecDepth 20000 in
theorem ggL_law_L_wouldPress : GoodIn wsL_law wsL_wouldPress := goodIn_ca (goodIn_ca (goodIn_r _ [355, 119, 90, 356, 357, 358, 2, 359, 20, 221, 222, 223, 224, 98, 99, 127, 128, 129, 130, 131, 132, 95, 96, 97, 294, 295, 296, 19, 297, 35, 298, 174, 175, 176, 520, 521, 522, 550, 551, 552, 553] (by decide +kernel) (by decide +kernel)) (goodIn_sub (fun _ h => List.mem_append_left _ (List.mem_append_left _ (List.mem_append_left _ (List.mem_append_right _ h)))) (by decide +kernel))) (goodIn_sub (fun _ h => List.mem_append_left _ (List.mem_append_right _ h)) (by decide +kernel))
set_option maxRecDepth 20000 in
theorem gL_law_L_wouldPress : GoodIn wsL_law (va_wsS RL 105 yL_wouldPress wsL_wouldPress) := goodIn_app (goodIn_of _ (by decide +kernel)) ggL_law_L_wouldPress
set_option maxRecDepth 20000 in
theorem ggL_law_X3_wouldPress : GoodIn wsL_law wsX3_wouldPress := goodIn_r _ [363, 252, 253, 254, 5, 255, 189, 190, 191, 192, 79, 104, 105, 106, 107, 108, 109, 110, 111, 260, 261, 262, 263, 66, 523, 524, 525, 526, 527, 528, 529, 530, 531, 532, 533, 534, 535, 536, 537, 538, 539, 540] (by decide +kernel) (by decide +kernel)
set_option maxRecDepth 20000 in
theorem gL_law_X3_wouldPress : GoodIn wsL_law (wsV RL 107 RX3 yX3_wouldPress wsX3_wouldPress) := goodIn_app (goodIn_of _ (by decide +kernel)) ggL_law_X3_wouldPress
set_option maxRecDepth 20000 in
theorem ggL_law_L_ceilingFor : GoodIn wsL_law wsL_ceilingFor := goodIn_ca (goodIn_ca (goodIn_ca (goodIn_r _ [366, 119, 90, 367, 368, 369, 370, 2, 371, 372, 373, 374, 20, 221, 222, 223, 224, 98, 99, 127, 128, 129, 130, 131, 132, 95, 96, 97, 375, 376, 377, 19, 378, 379, 295, 296, 297, 35, 298, 174, 175, 176, 520, 521, 522, 550, 551, 552, 553] (by decide +kernel) (by decide +kernel)) (goodIn_sub (fun _ h => List.mem_append_right _ h) (by decide +kernel))) (goodIn_sub (fun _ h => List.mem_append_left _ (List.mem_append_left _ (List.mem_append_left _ (List.mem_append_right _ h)))) (by decide +kernel))) (goodIn_sub (fun _ h => List.mem_append_left _ (List.mem_append_right _ h)) (by decide +kernel))
set_option maxRecDepth 20000 in
theorem gL_law_L_ceilingFor : GoodIn wsL_law (va_wsS RL 108 yL_ceilingFor wsL_ceilingFor) := goodIn_app (goodIn_of _ (by decide +kernel)) ggL_law_L_ceilingFor
set_option maxRecDepth 20000 in
theorem ggL_law_X3_ceilingFor : GoodIn wsL_law wsX3_ceilingFor := goodIn_r _ [383, 384, 252, 253, 254, 5, 255, 189, 190, 191, 192, 79, 104, 105, 106, 107, 108, 109, 110, 111, 260, 261, 262, 263, 66, 523, 524, 525, 526, 527, 528, 529, 530, 531, 532, 533, 534, 535, 536, 537, 538, 539, 540] (by decide +kernel) (by decide +kernel)
set_option maxRecDepth 20000 in
theorem gL_law_X3_ceilingFor : GoodIn wsL_law (wsV RL 110 RX3 yX3_ceilingFor wsX3_ceilingFor) := goodIn_app (goodIn_of _ (by decide +kernel)) ggL_law_X3_ceilingFor
set_option maxRecDepth 20000 in
theorem ggL_law_L_ceilingOver : GoodIn wsL_law wsL_ceilingOver := goodIn_ca (goodIn_ca (goodIn_r _ [387, 119, 367, 388, 389, 390, 2, 391, 372, 373, 20, 127, 128, 129, 130, 131, 132, 520, 521, 522, 550, 551, 552, 553] (by decide +kernel) (by decide +kernel)) (goodIn_sub (fun _ h => List.mem_append_right _ h) (by decide +kernel))) (goodIn_sub (fun _ h => List.mem_append_left _ (List.mem_append_right _ h)) (by decide +kernel))
set_option maxRecDepth 20000 in
theorem gL_law_L_ceilingOver : GoodIn wsL_law (va_wsS RL 111 yL_ceilingOver wsL_ceilingOver) := goodIn_app (goodIn_of _ (by decide +kernel)) ggL_law_L_ceilingOver
set_option maxRecDepth 20000 in
theorem ggL_law_X3_ceilingOver : GoodIn wsL_law wsX3_ceilingOver := goodIn_r _ [395, 67, 189, 190, 191, 5, 192, 79, 104, 105, 106, 107, 108, 109, 110, 111, 523, 524, 525, 526, 527, 528, 529, 530, 531, 532, 533, 534, 535, 536, 537, 538, 539, 540] (by decide +kernel) (by decide +kernel)
set_option maxRecDepth 20000 in
theorem gL_law_X3_ceilingOver : GoodIn wsL_law (wsV RL 113 RX3 yX3_ceilingOver wsX3_ceilingOver) := goodIn_app (goodIn_of _ (by decide +kernel)) ggL_law_X3_ceilingOver
set_option maxRecDepth 20000 in
theorem ggL_law_X2_columns : GoodIn wsL_law wsX2_columns := goodIn_r _ [399, 20, 520, 521, 522, 550, 551, 552, 553] (by decide +kernel) (by decide +kernel)
set_option maxRecDepth 20000 in
theorem gL_law_X2_columns : GoodIn wsL_law (wsV RL 114 RX2 yX2_columns wsX2_columns) := goodIn_app (goodIn_of _ (by decide +kernel)) ggL_law_X2_columns
set_option maxRecDepth 20000 in
theorem ggL_law_X3_columns : GoodIn wsL_law wsX3_columns := goodIn_r _ [403, 111, 79, 523, 524, 525, 526, 527, 528, 529, 530, 531, 532, 533, 534, 535, 536, 537, 538, 539, 540] (by decide +kernel) (by decide +kernel)
set_option maxRecDepth 20000 in
theorem gL_law_X3_columns : GoodIn wsL_law (wsV RL 117 RX3 yX3_columns wsX3_columns) := goodIn_app (goodIn_of _ (by decide +kernel)) ggL_law_X3_columns
set_option maxRecDepth 20000 in
theorem ggL_law_L_spanOf : GoodIn wsL_law wsL_spanOf := goodIn_ca (goodIn_r _ [406, 119, 407, 408, 409, 2, 410, 16, 411, 412, 413, 414, 131, 132, 415, 335, 336, 15, 337, 27, 520, 521, 522, 541, 542, 543, 544, 545, 546, 547, 548, 549] (by decide +kernel) (by decide +kernel)) (goodIn_sub (fun _ h => List.mem_append_left _ (List.mem_append_right _ h)) (by decide +kernel))
set_option maxRecDepth 20000 in
theorem gL_law_L_spanOf : GoodIn wsL_law (va_wsS RL 118 yL_spanOf wsL_spanOf) := goodIn_app (goodIn_of _ (by decide +kernel)) ggL_law_L_spanOf
set_option maxRecDepth 20000 in
theorem ggL_law_X3_spanOf : GoodIn wsL_law wsX3_spanOf := goodIn_r _ [419, 68, 69, 420, 421, 422, 5, 423, 104, 105, 106, 107, 108, 109, 110, 111, 523, 524, 525, 526, 527, 528, 529, 530, 531, 532, 533, 534, 535, 536, 537, 538, 539, 540] (by decide +kernel) (by decide +kernel)
set_option maxRecDepth 20000 in
theorem gL_law_X3_spanOf : GoodIn wsL_law (wsV RL 120 RX3 yX3_spanOf wsX3_spanOf) := goodIn_app (goodIn_of _ (by decide +kernel)) ggL_law_X3_spanOf
set_option maxRecDepth 20000 in
theorem ggL_law_L_greatest : GoodIn wsL_law wsL_greatest := goodIn_ca (goodIn_r _ [426, 119, 427, 428, 429, 2, 430, 16, 411, 412, 413, 414, 131, 132, 415, 335, 336, 15, 337, 27, 520, 521, 522, 541, 542, 543, 544, 545, 546, 547, 548, 549] (by decide +kernel) (by decide +kernel)) (goodIn_sub (fun _ h => List.mem_append_left _ (List.mem_append_right _ h)) (by decide +kernel))
set_option maxRecDepth 20000 in
theorem gL_law_L_greatest : GoodIn wsL_law (va_wsS RL 121 yL_greatest wsL_greatest) := goodIn_app (goodIn_of _ (by decide +kernel)) ggL_law_L_greatest
set_option maxRecDepth 20000 in
theorem ggL_law_X3_greatest : GoodIn wsL_law wsX3_greatest := goodIn_r _ [434, 70, 420, 421, 422, 5, 423, 68, 104, 105, 106, 107, 108, 109, 110, 111, 523, 524, 525, 526, 527, 528, 529, 530, 531, 532, 533, 534, 535, 536, 537, 538, 539, 540] (by decide +kernel) (by decide +kernel)
set_option maxRecDepth 20000 in
theorem gL_law_X3_greatest : GoodIn wsL_law (wsV RL 123 RX3 yX3_greatest wsX3_greatest) := goodIn_app (goodIn_of _ (by decide +kernel)) ggL_law_X3_greatest
set_option maxRecDepth 20000 in
theorem ggL_law_L_second : GoodIn wsL_law wsL_second := goodIn_ca (goodIn_r _ [437, 119, 438, 439, 440, 2, 441, 16, 411, 412, 413, 414, 131, 132, 415, 335, 336, 15, 337, 27, 520, 521, 522, 541, 542, 543, 544, 545, 546, 547, 548, 549] (by decide +kernel) (by decide +kernel)) (goodIn_sub (fun _ h => List.mem_append_left _ (List.mem_append_right _ h)) (by decide +kernel))
set_option maxRecDepth 20000 in
theorem gL_law_L_second : GoodIn wsL_law (va_wsS RL 124 yL_second wsL_second) := goodIn_app (goodIn_of _ (by decide +kernel)) ggL_law_L_second
set_option maxRecDepth 20000 in
theorem ggL_law_X3_second : GoodIn wsL_law wsX3_second := goodIn_r _ [445, 71, 420, 421, 422, 5, 423, 68, 104, 105, 106, 107, 108, 109, 110, 111, 523, 524, 525, 526, 527, 528, 529, 530, 531, 532, 533, 534, 535, 536, 537, 538, 539, 540] (by decide +kernel) (by decide +kernel)
set_option maxRecDepth 20000 in
theorem gL_law_X3_second : GoodIn wsL_law (wsV RL 126 RX3 yX3_second wsX3_second) := goodIn_app (goodIn_of _ (by decide +kernel)) ggL_law_X3_second
set_option maxRecDepth 20000 in
theorem ggL_law_L_many : GoodIn wsL_law wsL_many := goodIn_ca (goodIn_r _ [448, 119, 449, 450, 451, 2, 452, 16, 411, 412, 413, 414, 131, 132, 415, 335, 336, 15, 337, 27, 520, 521, 522, 541, 542, 543, 544, 545, 546, 547, 548, 549] (by decide +kernel) (by decide +kernel)) (goodIn_sub (fun _ h => List.mem_append_left _ (List.mem_append_right _ h)) (by decide +kernel))
set_option maxRecDepth 20000 in
theorem gL_law_L_many : GoodIn wsL_law (va_wsS RL 127 yL_many wsL_many) := goodIn_app (goodIn_of _ (by decide +kernel)) ggL_law_L_many
set_option maxRecDepth 20000 in
theorem ggL_law_X3_many : GoodIn wsL_law wsX3_many := goodIn_r _ [456, 72, 420, 421, 422, 5, 423, 68, 104, 105, 106, 107, 108, 109, 110, 111, 523, 524, 525, 526, 527, 528, 529, 530, 531, 532, 533, 534, 535, 536, 537, 538, 539, 540] (by decide +kernel) (by decide +kernel)
set_option maxRecDepth 20000 in
theorem gL_law_X3_many : GoodIn wsL_law (wsV RL 129 RX3 yX3_many wsX3_many) := goodIn_app (goodIn_of _ (by decide +kernel)) ggL_law_X3_many
set_option maxRecDepth 20000 in
theorem ggL_law_L_noted : GoodIn wsL_law wsL_noted := goodIn_ca (goodIn_r _ [459, 119, 460, 461, 462, 2, 463, 16, 411, 412, 413, 414, 131, 132, 415, 335, 336, 15, 337, 27, 520, 521, 522, 541, 542, 543, 544, 545, 546, 547, 548, 549] (by decide +kernel) (by decide +kernel)) (goodIn_sub (fun _ h => List.mem_append_left _ (List.mem_append_right _ h)) (by decide +kernel))
set_option maxRecDepth 20000 in
theorem gL_law_L_noted : GoodIn wsL_law (va_wsS RL 130 yL_noted wsL_noted) := goodIn_app (goodIn_of _ (by decide +kernel)) ggL_law_L_noted
set_option maxRecDepth 20000 in
theorem ggL_law_X3_noted : GoodIn wsL_law wsX3_noted := goodIn_r _ [467, 73, 420, 421, 422, 5, 423, 68, 104, 105, 106, 107, 108, 109, 110, 111, 523, 524, 525, 526, 527, 528, 529, 530, 531, 532, 533, 534, 535, 536, 537, 538, 539, 540] (by decide +kernel) (by decide +kernel)
set_option maxRecDepth 20000 in
theorem gL_law_X3_noted : GoodIn wsL_law (wsV RL 132 RX3 yX3_noted wsX3_noted) := goodIn_app (goodIn_of _ (by decide +kernel)) ggL_law_X3_noted
set_option maxRecDepth 20000 in
theorem ggL_law_X2_lagging : GoodIn wsL_law wsX2_lagging := goodIn_r _ [471, 16, 472, 473, 474, 15, 475, 334, 335, 336, 337, 27, 161, 162, 163, 164, 28, 520, 521, 522, 541, 542, 543, 544, 545, 546, 547, 548, 549] (by decide +kernel) (by decide +kernel)
set_option maxRecDepth 20000 in
theorem gL_law_X2_lagging : GoodIn wsL_law (wsV RL 133 RX2 yX2_lagging wsX2_lagging) := goodIn_app (goodIn_of _ (by decide +kernel)) ggL_law_X2_lagging
set_option maxRecDepth 20000 in
theorem ggL_law_X3_lagging : GoodIn wsL_law wsX3_lagging := goodIn_r _ [479, 111, 68, 70, 523, 524, 525, 526, 527, 528, 529, 530, 531, 532, 533, 534, 535, 536, 537, 538, 539, 540] (by decide +kernel) (by decide +kernel)
set_option maxRecDepth 20000 in
theorem gL_law_X3_lagging : GoodIn wsL_law (wsV RL 136 RX3 yX3_lagging wsX3_lagging) := goodIn_app (goodIn_of _ (by decide +kernel)) ggL_law_X3_lagging
set_option maxRecDepth 20000 in
theorem ggL_law_X2_visits : GoodIn wsL_law wsX2_visits := goodIn_r _ [483, 16, 520, 521, 522, 541, 542, 543, 544, 545, 546, 547, 548, 549] (by decide +kernel) (by decide +kernel)
set_option maxRecDepth 20000 in
theorem gL_law_X2_visits : GoodIn wsL_law (wsV RL 137 RX2 yX2_visits wsX2_visits) := goodIn_app (goodIn_of _ (by decide +kernel)) ggL_law_X2_visits
set_option maxRecDepth 20000 in
theorem ggL_law_X3_visits : GoodIn wsL_law wsX3_visits := goodIn_r _ [487, 111, 80, 523, 524, 525, 526, 527, 528, 529, 530, 531, 532, 533, 534, 535, 536, 537, 538, 539, 540] (by decide +kernel) (by decide +kernel)
set_option maxRecDepth 20000 in
theorem gL_law_X3_visits : GoodIn wsL_law (wsV RL 140 RX3 yX3_visits wsX3_visits) := goodIn_app (goodIn_of _ (by decide +kernel)) ggL_law_X3_visits
set_option maxRecDepth 20000 in
theorem ggL_law_X2_allVisits : GoodIn wsL_law wsX2_allVisits := goodIn_r _ [491, 16, 520, 521, 522, 541, 542, 543, 544, 545, 546, 547, 548, 549] (by decide +kernel) (by decide +kernel)
set_option maxRecDepth 20000 in
theorem gL_law_X2_allVisits : GoodIn wsL_law (wsV RL 141 RX2 yX2_allVisits wsX2_allVisits) := goodIn_app (goodIn_of _ (by decide +kernel)) ggL_law_X2_allVisits
set_option maxRecDepth 20000 in
theorem ggL_law_X3_allVisits : GoodIn wsL_law wsX3_allVisits := goodIn_r _ [495, 111, 81, 523, 524, 525, 526, 527, 528, 529, 530, 531, 532, 533, 534, 535, 536, 537, 538, 539, 540] (by decide +kernel) (by decide +kernel)
set_option maxRecDepth 20000 in
theorem gL_law_X3_allVisits : GoodIn wsL_law (wsV RL 144 RX3 yX3_allVisits wsX3_allVisits) := goodIn_app (goodIn_of _ (by decide +kernel)) ggL_law_X3_allVisits
set_option maxRecDepth 20000 in
theorem ggL_law_X2_pressedAway : GoodIn wsL_law wsX2_pressedAway := goodIn_r _ [499, 21, 520, 521, 522] (by decide +kernel) (by decide +kernel)
set_option maxRecDepth 20000 in
theorem gL_law_X2_pressedAway : GoodIn wsL_law (wsV RL 145 RX2 yX2_pressedAway wsX2_pressedAway) := goodIn_app (goodIn_of _ (by decide +kernel)) ggL_law_X2_pressedAway
set_option maxRecDepth 20000 in
theorem ggL_law_X3_pressedAway : GoodIn wsL_law wsX3_pressedAway := goodIn_r _ [503, 111, 85, 523, 524, 525, 526, 527, 528, 529, 530, 531, 532, 533, 534, 535, 536, 537, 538, 539, 540] (by decide +kernel) (by decide +kernel)
set_option maxRecDepth 20000 in
theorem gL_law_X3_pressedAway : GoodIn wsL_law (wsV RL 148 RX3 yX3_pressedAway wsX3_pressedAway) := goodIn_app (goodIn_of _ (by decide +kernel)) ggL_law_X3_pressedAway
set_option maxRecDepth 20000 in
theorem ggL_law_X2_pressedAwayByRest : GoodIn wsL_law wsX2_pressedAwayByRest := goodIn_r _ [507, 20, 294, 295, 296, 19, 297, 35, 298, 174, 175, 176, 520, 521, 522, 550, 551, 552, 553] (by decide +kernel) (by decide +kernel)
set_option maxRecDepth 20000 in
theorem gL_law_X2_pressedAwayByRest : GoodIn wsL_law (wsV RL 149 RX2 yX2_pressedAwayByRest wsX2_pressedAwayByRest) := goodIn_app (goodIn_of _ (by decide +kernel)) ggL_law_X2_pressedAwayByRest
set_option maxRecDepth 20000 in
theorem ggL_law_X3_pressedAwayByRest : GoodIn wsL_law wsX3_pressedAwayByRest := goodIn_r _ [511, 111, 83, 84, 79, 260, 261, 262, 5, 263, 66, 523, 524, 525, 526, 527, 528, 529, 530, 531, 532, 533, 534, 535, 536, 537, 538, 539, 540] (by decide +kernel) (by decide +kernel)
set_option maxRecDepth 20000 in
theorem gL_law_X3_pressedAwayByRest : GoodIn wsL_law (wsV RL 152 RX3 yX3_pressedAwayByRest wsX3_pressedAwayByRest) := goodIn_app (goodIn_of _ (by decide +kernel)) ggL_law_X3_pressedAwayByRest
set_option maxRecDepth 20000 in
theorem ggL_law_X2_meanVisits : GoodIn wsL_law wsX2_meanVisits := goodIn_r _ [515, 16, 520, 521, 522, 541, 542, 543, 544, 545, 546, 547, 548, 549] (by decide +kernel) (by decide +kernel)
set_option maxRecDepth 20000 in
theorem gL_law_X2_meanVisits : GoodIn wsL_law (wsV RL 153 RX2 yX2_meanVisits wsX2_meanVisits) := goodIn_app (goodIn_of _ (by decide +kernel)) ggL_law_X2_meanVisits
set_option maxRecDepth 20000 in
theorem ggL_law_X3_meanVisits : GoodIn wsL_law wsX3_meanVisits := goodIn_r _ [519, 111, 82, 81, 523, 524, 525, 526, 527, 528, 529, 530, 531, 532, 533, 534, 535, 536, 537, 538, 539, 540] (by decide +kernel) (by decide +kernel)
set_option maxRecDepth 20000 in
theorem gL_law_X3_meanVisits : GoodIn wsL_law (wsV RL 157 RX3 yX3_meanVisits wsX3_meanVisits) := goodIn_app (goodIn_of _ (by decide +kernel)) ggL_law_X3_meanVisits
theorem dL_law_0 : decode cL_law 0 = .ok (.new 8, 3) := by decide +kernel
theorem dL_law_3 : decode cL_law 3 = .ok (.dup, 1) := by decide +kernel
theorem dL_law_4 : decode cL_law 4 = .ok (.invokespecial 68, 3) := by decide +kernel
theorem dL_law_7 : decode cL_law 7 = .ok (.astore_n 1, 1) := by decide +kernel
theorem dL_law_8 : decode cL_law 8 = .ok (.new 69, 3) := by decide +kernel
theorem dL_law_11 : decode cL_law 11 = .ok (.dup, 1) := by decide +kernel
theorem dL_law_12 : decode cL_law 12 = .ok (.invokespecial 71, 3) := by decide +kernel
theorem dL_law_15 : decode cL_law 15 = .ok (.astore_n 2, 1) := by decide +kernel
theorem dL_law_16 : decode cL_law 16 = .ok (.iconst 1, 1) := by decide +kernel
theorem dL_law_17 : decode cL_law 17 = .ok (.newarray .long, 2) := by decide +kernel
theorem dL_law_19 : decode cL_law 19 = .ok (.astore_n 3, 1) := by decide +kernel
theorem dL_law_20 : decode cL_law 20 = .ok (.iconst 0, 1) := by decide +kernel
theorem dL_law_21 : decode cL_law 21 = .ok (.istore 4, 2) := by decide +kernel
theorem dL_law_23 : decode cL_law 23 = .ok (.iload 4, 2) := by decide +kernel
theorem dL_law_25 : decode cL_law 25 = .ok (.aload_n 0, 1) := by decide +kernel
theorem dL_law_26 : decode cL_law 26 = .ok (.arraylength, 1) := by decide +kernel
theorem dL_law_27 : decode cL_law 27 = .ok (.iconst 4, 1) := by decide +kernel
theorem dL_law_28 : decode cL_law 28 = .ok (.isub, 1) := by decide +kernel
theorem dL_law_29 : decode cL_law 29 = .ok (.if_icmp .gt 1268, 3) := by decide +kernel
theorem dL_law_32 : decode cL_law 32 = .ok (.aload_n 0, 1) := by decide +kernel
theorem dL_law_33 : decode cL_law 33 = .ok (.iload 4, 2) := by decide +kernel
theorem dL_law_35 : decode cL_law 35 = .ok (.iaload, 1) := by decide +kernel
theorem dL_law_36 : decode cL_law 36 = .ok (.bipush 31, 2) := by decide +kernel
theorem dL_law_38 : decode cL_law 38 = .ok (.iand, 1) := by decide +kernel
theorem dL_law_39 : decode cL_law 39 = .ok (.tableswitch 1252 0 22 #[105, 173, 241, 321, 389, 457, 525, 581, 637, 717, 797, 853, 866, 922, 978, 1034, 1090, 1146, 1159, 1172, 1185, 1198, 1211], 105) := by decide +kernel
theorem dL_law_144 : decode cL_law 144 = .ok (.aload_n 1, 1) := by decide +kernel
theorem dL_law_145 : decode cL_law 145 = .ok (.aload_n 0, 1) := by decide +kernel
theorem dL_law_146 : decode cL_law 146 = .ok (.iload 4, 2) := by decide +kernel
theorem dL_law_148 : decode cL_law 148 = .ok (.iconst 1, 1) := by decide +kernel
theorem dL_law_149 : decode cL_law 149 = .ok (.iadd, 1) := by decide +kernel
theorem dL_law_150 : decode cL_law 150 = .ok (.iaload, 1) := by decide +kernel
theorem dL_law_151 : decode cL_law 151 = .ok (.aload_n 0, 1) := by decide +kernel
theorem dL_law_152 : decode cL_law 152 = .ok (.iload 4, 2) := by decide +kernel
theorem dL_law_154 : decode cL_law 154 = .ok (.iconst 2, 1) := by decide +kernel
theorem dL_law_155 : decode cL_law 155 = .ok (.iadd, 1) := by decide +kernel
theorem dL_law_156 : decode cL_law 156 = .ok (.iaload, 1) := by decide +kernel
theorem dL_law_157 : decode cL_law 157 = .ok (.aload_n 3, 1) := by decide +kernel
theorem dL_law_158 : decode cL_law 158 = .ok (.invokestatic 72, 3) := by decide +kernel
theorem dL_law_161 : decode cL_law 161 = .ok (.istore 5, 2) := by decide +kernel
theorem dL_law_163 : decode cL_law 163 = .ok (.aload_n 2, 1) := by decide +kernel
theorem dL_law_164 : decode cL_law 164 = .ok (.aload_n 0, 1) := by decide +kernel
theorem dL_law_165 : decode cL_law 165 = .ok (.iload 4, 2) := by decide +kernel
theorem dL_law_167 : decode cL_law 167 = .ok (.iconst 1, 1) := by decide +kernel
theorem dL_law_168 : decode cL_law 168 = .ok (.iadd, 1) := by decide +kernel
theorem dL_law_169 : decode cL_law 169 = .ok (.iaload, 1) := by decide +kernel
theorem dL_law_170 : decode cL_law 170 = .ok (.aload_n 0, 1) := by decide +kernel
theorem dL_law_171 : decode cL_law 171 = .ok (.iload 4, 2) := by decide +kernel
theorem dL_law_173 : decode cL_law 173 = .ok (.iconst 2, 1) := by decide +kernel
theorem dL_law_174 : decode cL_law 174 = .ok (.iadd, 1) := by decide +kernel
theorem dL_law_175 : decode cL_law 175 = .ok (.iaload, 1) := by decide +kernel
theorem dL_law_176 : decode cL_law 176 = .ok (.invokevirtual 77, 3) := by decide +kernel
theorem dL_law_179 : decode cL_law 179 = .ok (.istore 6, 2) := by decide +kernel
theorem dL_law_181 : decode cL_law 181 = .ok (.aload_n 2, 1) := by decide +kernel
theorem dL_law_182 : decode cL_law 182 = .ok (.invokevirtual 78, 3) := by decide +kernel
theorem dL_law_185 : decode cL_law 185 = .ok (.iload 5, 2) := by decide +kernel
theorem dL_law_187 : decode cL_law 187 = .ok (.if_icmp .eq 5, 3) := by decide +kernel
theorem dL_law_190 : decode cL_law 190 = .ok (.iconst 0, 1) := by decide +kernel
theorem dL_law_191 : decode cL_law 191 = .ok (.ireturn, 1) := by decide +kernel
theorem dL_law_192 : decode cL_law 192 = .ok (.iload 5, 2) := by decide +kernel
theorem dL_law_194 : decode cL_law 194 = .ok (.ifCond .ne 15, 3) := by decide +kernel
theorem dL_law_197 : decode cL_law 197 = .ok (.aload_n 3, 1) := by decide +kernel
theorem dL_law_198 : decode cL_law 198 = .ok (.iconst 0, 1) := by decide +kernel
theorem dL_law_199 : decode cL_law 199 = .ok (.laload, 1) := by decide +kernel
theorem dL_law_200 : decode cL_law 200 = .ok (.iload 6, 2) := by decide +kernel
theorem dL_law_202 : decode cL_law 202 = .ok (.i2l, 1) := by decide +kernel
theorem dL_law_203 : decode cL_law 203 = .ok (.lcmp, 1) := by decide +kernel
theorem dL_law_204 : decode cL_law 204 = .ok (.ifCond .eq 5, 3) := by decide +kernel
theorem dL_law_207 : decode cL_law 207 = .ok (.iconst 0, 1) := by decide +kernel
theorem dL_law_208 : decode cL_law 208 = .ok (.ireturn, 1) := by decide +kernel
theorem dL_law_209 : decode cL_law 209 = .ok (.goto 1082, 3) := by decide +kernel
theorem dL_law_212 : decode cL_law 212 = .ok (.aload_n 1, 1) := by decide +kernel
theorem dL_law_213 : decode cL_law 213 = .ok (.aload_n 0, 1) := by decide +kernel
theorem dL_law_214 : decode cL_law 214 = .ok (.iload 4, 2) := by decide +kernel
theorem dL_law_216 : decode cL_law 216 = .ok (.iconst 1, 1) := by decide +kernel
theorem dL_law_217 : decode cL_law 217 = .ok (.iadd, 1) := by decide +kernel
theorem dL_law_218 : decode cL_law 218 = .ok (.iaload, 1) := by decide +kernel
theorem dL_law_219 : decode cL_law 219 = .ok (.aload_n 0, 1) := by decide +kernel
theorem dL_law_220 : decode cL_law 220 = .ok (.iload 4, 2) := by decide +kernel
theorem dL_law_222 : decode cL_law 222 = .ok (.iconst 2, 1) := by decide +kernel
theorem dL_law_223 : decode cL_law 223 = .ok (.iadd, 1) := by decide +kernel
theorem dL_law_224 : decode cL_law 224 = .ok (.iaload, 1) := by decide +kernel
theorem dL_law_225 : decode cL_law 225 = .ok (.aload_n 3, 1) := by decide +kernel
theorem dL_law_226 : decode cL_law 226 = .ok (.invokestatic 82, 3) := by decide +kernel
theorem dL_law_229 : decode cL_law 229 = .ok (.istore 5, 2) := by decide +kernel
theorem dL_law_231 : decode cL_law 231 = .ok (.aload_n 2, 1) := by decide +kernel
theorem dL_law_232 : decode cL_law 232 = .ok (.aload_n 0, 1) := by decide +kernel
theorem dL_law_233 : decode cL_law 233 = .ok (.iload 4, 2) := by decide +kernel
theorem dL_law_235 : decode cL_law 235 = .ok (.iconst 1, 1) := by decide +kernel
theorem dL_law_236 : decode cL_law 236 = .ok (.iadd, 1) := by decide +kernel
theorem dL_law_237 : decode cL_law 237 = .ok (.iaload, 1) := by decide +kernel
theorem dL_law_238 : decode cL_law 238 = .ok (.aload_n 0, 1) := by decide +kernel
theorem dL_law_239 : decode cL_law 239 = .ok (.iload 4, 2) := by decide +kernel
theorem dL_law_241 : decode cL_law 241 = .ok (.iconst 2, 1) := by decide +kernel
theorem dL_law_242 : decode cL_law 242 = .ok (.iadd, 1) := by decide +kernel
theorem dL_law_243 : decode cL_law 243 = .ok (.iaload, 1) := by decide +kernel
theorem dL_law_244 : decode cL_law 244 = .ok (.invokevirtual 84, 3) := by decide +kernel
theorem dL_law_247 : decode cL_law 247 = .ok (.istore 6, 2) := by decide +kernel
theorem dL_law_249 : decode cL_law 249 = .ok (.aload_n 2, 1) := by decide +kernel
theorem dL_law_250 : decode cL_law 250 = .ok (.invokevirtual 78, 3) := by decide +kernel
theorem dL_law_253 : decode cL_law 253 = .ok (.iload 5, 2) := by decide +kernel
theorem dL_law_255 : decode cL_law 255 = .ok (.if_icmp .eq 5, 3) := by decide +kernel
theorem dL_law_258 : decode cL_law 258 = .ok (.iconst 0, 1) := by decide +kernel
theorem dL_law_259 : decode cL_law 259 = .ok (.ireturn, 1) := by decide +kernel
theorem dL_law_260 : decode cL_law 260 = .ok (.iload 5, 2) := by decide +kernel
theorem dL_law_262 : decode cL_law 262 = .ok (.ifCond .ne 15, 3) := by decide +kernel
theorem dL_law_265 : decode cL_law 265 = .ok (.aload_n 3, 1) := by decide +kernel
theorem dL_law_266 : decode cL_law 266 = .ok (.iconst 0, 1) := by decide +kernel
theorem dL_law_267 : decode cL_law 267 = .ok (.laload, 1) := by decide +kernel
theorem dL_law_268 : decode cL_law 268 = .ok (.iload 6, 2) := by decide +kernel
theorem dL_law_270 : decode cL_law 270 = .ok (.i2l, 1) := by decide +kernel
theorem dL_law_271 : decode cL_law 271 = .ok (.lcmp, 1) := by decide +kernel
theorem dL_law_272 : decode cL_law 272 = .ok (.ifCond .eq 5, 3) := by decide +kernel
theorem dL_law_275 : decode cL_law 275 = .ok (.iconst 0, 1) := by decide +kernel
theorem dL_law_276 : decode cL_law 276 = .ok (.ireturn, 1) := by decide +kernel
theorem dL_law_277 : decode cL_law 277 = .ok (.goto 1014, 3) := by decide +kernel
theorem dL_law_280 : decode cL_law 280 = .ok (.aload_n 1, 1) := by decide +kernel
theorem dL_law_281 : decode cL_law 281 = .ok (.aload_n 0, 1) := by decide +kernel
theorem dL_law_282 : decode cL_law 282 = .ok (.iload 4, 2) := by decide +kernel
theorem dL_law_284 : decode cL_law 284 = .ok (.iconst 1, 1) := by decide +kernel
theorem dL_law_285 : decode cL_law 285 = .ok (.iadd, 1) := by decide +kernel
theorem dL_law_286 : decode cL_law 286 = .ok (.iaload, 1) := by decide +kernel
theorem dL_law_287 : decode cL_law 287 = .ok (.aload_n 0, 1) := by decide +kernel
theorem dL_law_288 : decode cL_law 288 = .ok (.iload 4, 2) := by decide +kernel
theorem dL_law_290 : decode cL_law 290 = .ok (.iconst 2, 1) := by decide +kernel
theorem dL_law_291 : decode cL_law 291 = .ok (.iadd, 1) := by decide +kernel
theorem dL_law_292 : decode cL_law 292 = .ok (.iaload, 1) := by decide +kernel
theorem dL_law_293 : decode cL_law 293 = .ok (.aload_n 0, 1) := by decide +kernel
theorem dL_law_294 : decode cL_law 294 = .ok (.iload 4, 2) := by decide +kernel
theorem dL_law_296 : decode cL_law 296 = .ok (.iconst 3, 1) := by decide +kernel
theorem dL_law_297 : decode cL_law 297 = .ok (.iadd, 1) := by decide +kernel
theorem dL_law_298 : decode cL_law 298 = .ok (.iaload, 1) := by decide +kernel
theorem dL_law_299 : decode cL_law 299 = .ok (.aload_n 3, 1) := by decide +kernel
theorem dL_law_300 : decode cL_law 300 = .ok (.invokestatic 85, 3) := by decide +kernel
theorem dL_law_303 : decode cL_law 303 = .ok (.istore 5, 2) := by decide +kernel
theorem dL_law_305 : decode cL_law 305 = .ok (.aload_n 2, 1) := by decide +kernel
theorem dL_law_306 : decode cL_law 306 = .ok (.aload_n 0, 1) := by decide +kernel
theorem dL_law_307 : decode cL_law 307 = .ok (.iload 4, 2) := by decide +kernel
theorem dL_law_309 : decode cL_law 309 = .ok (.iconst 1, 1) := by decide +kernel
theorem dL_law_310 : decode cL_law 310 = .ok (.iadd, 1) := by decide +kernel
theorem dL_law_311 : decode cL_law 311 = .ok (.iaload, 1) := by decide +kernel
theorem dL_law_312 : decode cL_law 312 = .ok (.aload_n 0, 1) := by decide +kernel
theorem dL_law_313 : decode cL_law 313 = .ok (.iload 4, 2) := by decide +kernel
theorem dL_law_315 : decode cL_law 315 = .ok (.iconst 2, 1) := by decide +kernel
theorem dL_law_316 : decode cL_law 316 = .ok (.iadd, 1) := by decide +kernel
theorem dL_law_317 : decode cL_law 317 = .ok (.iaload, 1) := by decide +kernel
theorem dL_law_318 : decode cL_law 318 = .ok (.aload_n 0, 1) := by decide +kernel
theorem dL_law_319 : decode cL_law 319 = .ok (.iload 4, 2) := by decide +kernel
theorem dL_law_321 : decode cL_law 321 = .ok (.iconst 3, 1) := by decide +kernel
theorem dL_law_322 : decode cL_law 322 = .ok (.iadd, 1) := by decide +kernel
theorem dL_law_323 : decode cL_law 323 = .ok (.iaload, 1) := by decide +kernel
theorem dL_law_324 : decode cL_law 324 = .ok (.invokevirtual 88, 3) := by decide +kernel
theorem dL_law_327 : decode cL_law 327 = .ok (.istore 6, 2) := by decide +kernel
theorem dL_law_329 : decode cL_law 329 = .ok (.aload_n 2, 1) := by decide +kernel
theorem dL_law_330 : decode cL_law 330 = .ok (.invokevirtual 78, 3) := by decide +kernel
theorem dL_law_333 : decode cL_law 333 = .ok (.iload 5, 2) := by decide +kernel
theorem dL_law_335 : decode cL_law 335 = .ok (.if_icmp .eq 5, 3) := by decide +kernel
theorem dL_law_338 : decode cL_law 338 = .ok (.iconst 0, 1) := by decide +kernel
theorem dL_law_339 : decode cL_law 339 = .ok (.ireturn, 1) := by decide +kernel
theorem dL_law_340 : decode cL_law 340 = .ok (.iload 5, 2) := by decide +kernel
theorem dL_law_342 : decode cL_law 342 = .ok (.ifCond .ne 15, 3) := by decide +kernel
theorem dL_law_345 : decode cL_law 345 = .ok (.aload_n 3, 1) := by decide +kernel
theorem dL_law_346 : decode cL_law 346 = .ok (.iconst 0, 1) := by decide +kernel
theorem dL_law_347 : decode cL_law 347 = .ok (.laload, 1) := by decide +kernel
theorem dL_law_348 : decode cL_law 348 = .ok (.iload 6, 2) := by decide +kernel
theorem dL_law_350 : decode cL_law 350 = .ok (.i2l, 1) := by decide +kernel
theorem dL_law_351 : decode cL_law 351 = .ok (.lcmp, 1) := by decide +kernel
theorem dL_law_352 : decode cL_law 352 = .ok (.ifCond .eq 5, 3) := by decide +kernel
theorem dL_law_355 : decode cL_law 355 = .ok (.iconst 0, 1) := by decide +kernel
theorem dL_law_356 : decode cL_law 356 = .ok (.ireturn, 1) := by decide +kernel
theorem dL_law_357 : decode cL_law 357 = .ok (.goto 934, 3) := by decide +kernel
theorem dL_law_360 : decode cL_law 360 = .ok (.aload_n 1, 1) := by decide +kernel
theorem dL_law_361 : decode cL_law 361 = .ok (.aload_n 0, 1) := by decide +kernel
theorem dL_law_362 : decode cL_law 362 = .ok (.iload 4, 2) := by decide +kernel
theorem dL_law_364 : decode cL_law 364 = .ok (.iconst 1, 1) := by decide +kernel
theorem dL_law_365 : decode cL_law 365 = .ok (.iadd, 1) := by decide +kernel
theorem dL_law_366 : decode cL_law 366 = .ok (.iaload, 1) := by decide +kernel
theorem dL_law_367 : decode cL_law 367 = .ok (.aload_n 0, 1) := by decide +kernel
theorem dL_law_368 : decode cL_law 368 = .ok (.iload 4, 2) := by decide +kernel
theorem dL_law_370 : decode cL_law 370 = .ok (.iconst 2, 1) := by decide +kernel
theorem dL_law_371 : decode cL_law 371 = .ok (.iadd, 1) := by decide +kernel
theorem dL_law_372 : decode cL_law 372 = .ok (.iaload, 1) := by decide +kernel
theorem dL_law_373 : decode cL_law 373 = .ok (.aload_n 3, 1) := by decide +kernel
theorem dL_law_374 : decode cL_law 374 = .ok (.invokestatic 89, 3) := by decide +kernel
theorem dL_law_377 : decode cL_law 377 = .ok (.istore 5, 2) := by decide +kernel
theorem dL_law_379 : decode cL_law 379 = .ok (.aload_n 2, 1) := by decide +kernel
theorem dL_law_380 : decode cL_law 380 = .ok (.aload_n 0, 1) := by decide +kernel
theorem dL_law_381 : decode cL_law 381 = .ok (.iload 4, 2) := by decide +kernel
theorem dL_law_383 : decode cL_law 383 = .ok (.iconst 1, 1) := by decide +kernel
theorem dL_law_384 : decode cL_law 384 = .ok (.iadd, 1) := by decide +kernel
theorem dL_law_385 : decode cL_law 385 = .ok (.iaload, 1) := by decide +kernel
theorem dL_law_386 : decode cL_law 386 = .ok (.aload_n 0, 1) := by decide +kernel
theorem dL_law_387 : decode cL_law 387 = .ok (.iload 4, 2) := by decide +kernel
theorem dL_law_389 : decode cL_law 389 = .ok (.iconst 2, 1) := by decide +kernel
theorem dL_law_390 : decode cL_law 390 = .ok (.iadd, 1) := by decide +kernel
theorem dL_law_391 : decode cL_law 391 = .ok (.iaload, 1) := by decide +kernel
theorem dL_law_392 : decode cL_law 392 = .ok (.invokevirtual 91, 3) := by decide +kernel
theorem dL_law_395 : decode cL_law 395 = .ok (.istore 6, 2) := by decide +kernel
theorem dL_law_397 : decode cL_law 397 = .ok (.aload_n 2, 1) := by decide +kernel
theorem dL_law_398 : decode cL_law 398 = .ok (.invokevirtual 78, 3) := by decide +kernel
theorem dL_law_401 : decode cL_law 401 = .ok (.iload 5, 2) := by decide +kernel
theorem dL_law_403 : decode cL_law 403 = .ok (.if_icmp .eq 5, 3) := by decide +kernel
theorem dL_law_406 : decode cL_law 406 = .ok (.iconst 0, 1) := by decide +kernel
theorem dL_law_407 : decode cL_law 407 = .ok (.ireturn, 1) := by decide +kernel
theorem dL_law_408 : decode cL_law 408 = .ok (.iload 5, 2) := by decide +kernel
theorem dL_law_410 : decode cL_law 410 = .ok (.ifCond .ne 15, 3) := by decide +kernel
theorem dL_law_413 : decode cL_law 413 = .ok (.aload_n 3, 1) := by decide +kernel
theorem dL_law_414 : decode cL_law 414 = .ok (.iconst 0, 1) := by decide +kernel
theorem dL_law_415 : decode cL_law 415 = .ok (.laload, 1) := by decide +kernel
theorem dL_law_416 : decode cL_law 416 = .ok (.iload 6, 2) := by decide +kernel
theorem dL_law_418 : decode cL_law 418 = .ok (.i2l, 1) := by decide +kernel
theorem dL_law_419 : decode cL_law 419 = .ok (.lcmp, 1) := by decide +kernel
theorem dL_law_420 : decode cL_law 420 = .ok (.ifCond .eq 5, 3) := by decide +kernel
theorem dL_law_423 : decode cL_law 423 = .ok (.iconst 0, 1) := by decide +kernel
theorem dL_law_424 : decode cL_law 424 = .ok (.ireturn, 1) := by decide +kernel
theorem dL_law_425 : decode cL_law 425 = .ok (.goto 866, 3) := by decide +kernel
theorem dL_law_428 : decode cL_law 428 = .ok (.aload_n 1, 1) := by decide +kernel
theorem dL_law_429 : decode cL_law 429 = .ok (.aload_n 0, 1) := by decide +kernel
theorem dL_law_430 : decode cL_law 430 = .ok (.iload 4, 2) := by decide +kernel
theorem dL_law_432 : decode cL_law 432 = .ok (.iconst 1, 1) := by decide +kernel
theorem dL_law_433 : decode cL_law 433 = .ok (.iadd, 1) := by decide +kernel
theorem dL_law_434 : decode cL_law 434 = .ok (.iaload, 1) := by decide +kernel
theorem dL_law_435 : decode cL_law 435 = .ok (.aload_n 0, 1) := by decide +kernel
theorem dL_law_436 : decode cL_law 436 = .ok (.iload 4, 2) := by decide +kernel
theorem dL_law_438 : decode cL_law 438 = .ok (.iconst 2, 1) := by decide +kernel
theorem dL_law_439 : decode cL_law 439 = .ok (.iadd, 1) := by decide +kernel
theorem dL_law_440 : decode cL_law 440 = .ok (.iaload, 1) := by decide +kernel
theorem dL_law_441 : decode cL_law 441 = .ok (.aload_n 3, 1) := by decide +kernel
theorem dL_law_442 : decode cL_law 442 = .ok (.invokestatic 92, 3) := by decide +kernel
theorem dL_law_445 : decode cL_law 445 = .ok (.istore 5, 2) := by decide +kernel
theorem dL_law_447 : decode cL_law 447 = .ok (.aload_n 2, 1) := by decide +kernel
theorem dL_law_448 : decode cL_law 448 = .ok (.aload_n 0, 1) := by decide +kernel
theorem dL_law_449 : decode cL_law 449 = .ok (.iload 4, 2) := by decide +kernel
theorem dL_law_451 : decode cL_law 451 = .ok (.iconst 1, 1) := by decide +kernel
theorem dL_law_452 : decode cL_law 452 = .ok (.iadd, 1) := by decide +kernel
theorem dL_law_453 : decode cL_law 453 = .ok (.iaload, 1) := by decide +kernel
theorem dL_law_454 : decode cL_law 454 = .ok (.aload_n 0, 1) := by decide +kernel
theorem dL_law_455 : decode cL_law 455 = .ok (.iload 4, 2) := by decide +kernel
theorem dL_law_457 : decode cL_law 457 = .ok (.iconst 2, 1) := by decide +kernel
theorem dL_law_458 : decode cL_law 458 = .ok (.iadd, 1) := by decide +kernel
theorem dL_law_459 : decode cL_law 459 = .ok (.iaload, 1) := by decide +kernel
theorem dL_law_460 : decode cL_law 460 = .ok (.invokevirtual 94, 3) := by decide +kernel
theorem dL_law_463 : decode cL_law 463 = .ok (.istore 6, 2) := by decide +kernel
theorem dL_law_465 : decode cL_law 465 = .ok (.aload_n 2, 1) := by decide +kernel
theorem dL_law_466 : decode cL_law 466 = .ok (.invokevirtual 78, 3) := by decide +kernel
theorem dL_law_469 : decode cL_law 469 = .ok (.iload 5, 2) := by decide +kernel
theorem dL_law_471 : decode cL_law 471 = .ok (.if_icmp .eq 5, 3) := by decide +kernel
theorem dL_law_474 : decode cL_law 474 = .ok (.iconst 0, 1) := by decide +kernel
theorem dL_law_475 : decode cL_law 475 = .ok (.ireturn, 1) := by decide +kernel
theorem dL_law_476 : decode cL_law 476 = .ok (.iload 5, 2) := by decide +kernel
theorem dL_law_478 : decode cL_law 478 = .ok (.ifCond .ne 15, 3) := by decide +kernel
theorem dL_law_481 : decode cL_law 481 = .ok (.aload_n 3, 1) := by decide +kernel
theorem dL_law_482 : decode cL_law 482 = .ok (.iconst 0, 1) := by decide +kernel
theorem dL_law_483 : decode cL_law 483 = .ok (.laload, 1) := by decide +kernel
theorem dL_law_484 : decode cL_law 484 = .ok (.iload 6, 2) := by decide +kernel
theorem dL_law_486 : decode cL_law 486 = .ok (.i2l, 1) := by decide +kernel
theorem dL_law_487 : decode cL_law 487 = .ok (.lcmp, 1) := by decide +kernel
theorem dL_law_488 : decode cL_law 488 = .ok (.ifCond .eq 5, 3) := by decide +kernel
theorem dL_law_491 : decode cL_law 491 = .ok (.iconst 0, 1) := by decide +kernel
theorem dL_law_492 : decode cL_law 492 = .ok (.ireturn, 1) := by decide +kernel
theorem dL_law_493 : decode cL_law 493 = .ok (.goto 798, 3) := by decide +kernel
theorem dL_law_496 : decode cL_law 496 = .ok (.aload_n 1, 1) := by decide +kernel
theorem dL_law_497 : decode cL_law 497 = .ok (.aload_n 0, 1) := by decide +kernel
theorem dL_law_498 : decode cL_law 498 = .ok (.iload 4, 2) := by decide +kernel
theorem dL_law_500 : decode cL_law 500 = .ok (.iconst 1, 1) := by decide +kernel
theorem dL_law_501 : decode cL_law 501 = .ok (.iadd, 1) := by decide +kernel
theorem dL_law_502 : decode cL_law 502 = .ok (.iaload, 1) := by decide +kernel
theorem dL_law_503 : decode cL_law 503 = .ok (.aload_n 0, 1) := by decide +kernel
theorem dL_law_504 : decode cL_law 504 = .ok (.iload 4, 2) := by decide +kernel
theorem dL_law_506 : decode cL_law 506 = .ok (.iconst 2, 1) := by decide +kernel
theorem dL_law_507 : decode cL_law 507 = .ok (.iadd, 1) := by decide +kernel
theorem dL_law_508 : decode cL_law 508 = .ok (.iaload, 1) := by decide +kernel
theorem dL_law_509 : decode cL_law 509 = .ok (.aload_n 3, 1) := by decide +kernel
theorem dL_law_510 : decode cL_law 510 = .ok (.invokestatic 95, 3) := by decide +kernel
theorem dL_law_513 : decode cL_law 513 = .ok (.istore 5, 2) := by decide +kernel
theorem dL_law_515 : decode cL_law 515 = .ok (.aload_n 2, 1) := by decide +kernel
theorem dL_law_516 : decode cL_law 516 = .ok (.aload_n 0, 1) := by decide +kernel
theorem dL_law_517 : decode cL_law 517 = .ok (.iload 4, 2) := by decide +kernel
theorem dL_law_519 : decode cL_law 519 = .ok (.iconst 1, 1) := by decide +kernel
theorem dL_law_520 : decode cL_law 520 = .ok (.iadd, 1) := by decide +kernel
theorem dL_law_521 : decode cL_law 521 = .ok (.iaload, 1) := by decide +kernel
theorem dL_law_522 : decode cL_law 522 = .ok (.aload_n 0, 1) := by decide +kernel
theorem dL_law_523 : decode cL_law 523 = .ok (.iload 4, 2) := by decide +kernel
theorem dL_law_525 : decode cL_law 525 = .ok (.iconst 2, 1) := by decide +kernel
theorem dL_law_526 : decode cL_law 526 = .ok (.iadd, 1) := by decide +kernel
theorem dL_law_527 : decode cL_law 527 = .ok (.iaload, 1) := by decide +kernel
theorem dL_law_528 : decode cL_law 528 = .ok (.invokevirtual 97, 3) := by decide +kernel
theorem dL_law_531 : decode cL_law 531 = .ok (.istore 6, 2) := by decide +kernel
theorem dL_law_533 : decode cL_law 533 = .ok (.aload_n 2, 1) := by decide +kernel
theorem dL_law_534 : decode cL_law 534 = .ok (.invokevirtual 78, 3) := by decide +kernel
theorem dL_law_537 : decode cL_law 537 = .ok (.iload 5, 2) := by decide +kernel
theorem dL_law_539 : decode cL_law 539 = .ok (.if_icmp .eq 5, 3) := by decide +kernel
theorem dL_law_542 : decode cL_law 542 = .ok (.iconst 0, 1) := by decide +kernel
theorem dL_law_543 : decode cL_law 543 = .ok (.ireturn, 1) := by decide +kernel
theorem dL_law_544 : decode cL_law 544 = .ok (.iload 5, 2) := by decide +kernel
theorem dL_law_546 : decode cL_law 546 = .ok (.ifCond .ne 15, 3) := by decide +kernel
theorem dL_law_549 : decode cL_law 549 = .ok (.aload_n 3, 1) := by decide +kernel
theorem dL_law_550 : decode cL_law 550 = .ok (.iconst 0, 1) := by decide +kernel
theorem dL_law_551 : decode cL_law 551 = .ok (.laload, 1) := by decide +kernel
theorem dL_law_552 : decode cL_law 552 = .ok (.iload 6, 2) := by decide +kernel
theorem dL_law_554 : decode cL_law 554 = .ok (.i2l, 1) := by decide +kernel
theorem dL_law_555 : decode cL_law 555 = .ok (.lcmp, 1) := by decide +kernel
theorem dL_law_556 : decode cL_law 556 = .ok (.ifCond .eq 5, 3) := by decide +kernel
theorem dL_law_559 : decode cL_law 559 = .ok (.iconst 0, 1) := by decide +kernel
theorem dL_law_560 : decode cL_law 560 = .ok (.ireturn, 1) := by decide +kernel
theorem dL_law_561 : decode cL_law 561 = .ok (.goto 730, 3) := by decide +kernel
theorem dL_law_564 : decode cL_law 564 = .ok (.aload_n 1, 1) := by decide +kernel
theorem dL_law_565 : decode cL_law 565 = .ok (.aload_n 0, 1) := by decide +kernel
theorem dL_law_566 : decode cL_law 566 = .ok (.iload 4, 2) := by decide +kernel
theorem dL_law_568 : decode cL_law 568 = .ok (.iconst 1, 1) := by decide +kernel
theorem dL_law_569 : decode cL_law 569 = .ok (.iadd, 1) := by decide +kernel
theorem dL_law_570 : decode cL_law 570 = .ok (.iaload, 1) := by decide +kernel
theorem dL_law_571 : decode cL_law 571 = .ok (.aload_n 3, 1) := by decide +kernel
theorem dL_law_572 : decode cL_law 572 = .ok (.invokestatic 98, 3) := by decide +kernel
theorem dL_law_575 : decode cL_law 575 = .ok (.istore 5, 2) := by decide +kernel
theorem dL_law_577 : decode cL_law 577 = .ok (.aload_n 2, 1) := by decide +kernel
theorem dL_law_578 : decode cL_law 578 = .ok (.aload_n 0, 1) := by decide +kernel
theorem dL_law_579 : decode cL_law 579 = .ok (.iload 4, 2) := by decide +kernel
theorem dL_law_581 : decode cL_law 581 = .ok (.iconst 1, 1) := by decide +kernel
theorem dL_law_582 : decode cL_law 582 = .ok (.iadd, 1) := by decide +kernel
theorem dL_law_583 : decode cL_law 583 = .ok (.iaload, 1) := by decide +kernel
theorem dL_law_584 : decode cL_law 584 = .ok (.invokevirtual 101, 3) := by decide +kernel
theorem dL_law_587 : decode cL_law 587 = .ok (.istore 6, 2) := by decide +kernel
theorem dL_law_589 : decode cL_law 589 = .ok (.aload_n 2, 1) := by decide +kernel
theorem dL_law_590 : decode cL_law 590 = .ok (.invokevirtual 78, 3) := by decide +kernel
theorem dL_law_593 : decode cL_law 593 = .ok (.iload 5, 2) := by decide +kernel
theorem dL_law_595 : decode cL_law 595 = .ok (.if_icmp .eq 5, 3) := by decide +kernel
theorem dL_law_598 : decode cL_law 598 = .ok (.iconst 0, 1) := by decide +kernel
theorem dL_law_599 : decode cL_law 599 = .ok (.ireturn, 1) := by decide +kernel
theorem dL_law_600 : decode cL_law 600 = .ok (.iload 5, 2) := by decide +kernel
theorem dL_law_602 : decode cL_law 602 = .ok (.ifCond .ne 15, 3) := by decide +kernel
theorem dL_law_605 : decode cL_law 605 = .ok (.aload_n 3, 1) := by decide +kernel
theorem dL_law_606 : decode cL_law 606 = .ok (.iconst 0, 1) := by decide +kernel
theorem dL_law_607 : decode cL_law 607 = .ok (.laload, 1) := by decide +kernel
theorem dL_law_608 : decode cL_law 608 = .ok (.iload 6, 2) := by decide +kernel
theorem dL_law_610 : decode cL_law 610 = .ok (.i2l, 1) := by decide +kernel
theorem dL_law_611 : decode cL_law 611 = .ok (.lcmp, 1) := by decide +kernel
theorem dL_law_612 : decode cL_law 612 = .ok (.ifCond .eq 5, 3) := by decide +kernel
theorem dL_law_615 : decode cL_law 615 = .ok (.iconst 0, 1) := by decide +kernel
theorem dL_law_616 : decode cL_law 616 = .ok (.ireturn, 1) := by decide +kernel
theorem dL_law_617 : decode cL_law 617 = .ok (.goto 674, 3) := by decide +kernel
theorem dL_law_620 : decode cL_law 620 = .ok (.aload_n 1, 1) := by decide +kernel
theorem dL_law_621 : decode cL_law 621 = .ok (.aload_n 0, 1) := by decide +kernel
theorem dL_law_622 : decode cL_law 622 = .ok (.iload 4, 2) := by decide +kernel
theorem dL_law_624 : decode cL_law 624 = .ok (.iconst 1, 1) := by decide +kernel
theorem dL_law_625 : decode cL_law 625 = .ok (.iadd, 1) := by decide +kernel
theorem dL_law_626 : decode cL_law 626 = .ok (.iaload, 1) := by decide +kernel
theorem dL_law_627 : decode cL_law 627 = .ok (.aload_n 3, 1) := by decide +kernel
theorem dL_law_628 : decode cL_law 628 = .ok (.invokestatic 102, 3) := by decide +kernel
theorem dL_law_631 : decode cL_law 631 = .ok (.istore 5, 2) := by decide +kernel
theorem dL_law_633 : decode cL_law 633 = .ok (.aload_n 2, 1) := by decide +kernel
theorem dL_law_634 : decode cL_law 634 = .ok (.aload_n 0, 1) := by decide +kernel
theorem dL_law_635 : decode cL_law 635 = .ok (.iload 4, 2) := by decide +kernel
theorem dL_law_637 : decode cL_law 637 = .ok (.iconst 1, 1) := by decide +kernel
theorem dL_law_638 : decode cL_law 638 = .ok (.iadd, 1) := by decide +kernel
theorem dL_law_639 : decode cL_law 639 = .ok (.iaload, 1) := by decide +kernel
theorem dL_law_640 : decode cL_law 640 = .ok (.invokevirtual 104, 3) := by decide +kernel
theorem dL_law_643 : decode cL_law 643 = .ok (.istore 6, 2) := by decide +kernel
theorem dL_law_645 : decode cL_law 645 = .ok (.aload_n 2, 1) := by decide +kernel
theorem dL_law_646 : decode cL_law 646 = .ok (.invokevirtual 78, 3) := by decide +kernel
theorem dL_law_649 : decode cL_law 649 = .ok (.iload 5, 2) := by decide +kernel
theorem dL_law_651 : decode cL_law 651 = .ok (.if_icmp .eq 5, 3) := by decide +kernel
theorem dL_law_654 : decode cL_law 654 = .ok (.iconst 0, 1) := by decide +kernel
theorem dL_law_655 : decode cL_law 655 = .ok (.ireturn, 1) := by decide +kernel
theorem dL_law_656 : decode cL_law 656 = .ok (.iload 5, 2) := by decide +kernel
theorem dL_law_658 : decode cL_law 658 = .ok (.ifCond .ne 15, 3) := by decide +kernel
theorem dL_law_661 : decode cL_law 661 = .ok (.aload_n 3, 1) := by decide +kernel
theorem dL_law_662 : decode cL_law 662 = .ok (.iconst 0, 1) := by decide +kernel
theorem dL_law_663 : decode cL_law 663 = .ok (.laload, 1) := by decide +kernel
theorem dL_law_664 : decode cL_law 664 = .ok (.iload 6, 2) := by decide +kernel
theorem dL_law_666 : decode cL_law 666 = .ok (.i2l, 1) := by decide +kernel
theorem dL_law_667 : decode cL_law 667 = .ok (.lcmp, 1) := by decide +kernel
theorem dL_law_668 : decode cL_law 668 = .ok (.ifCond .eq 5, 3) := by decide +kernel
theorem dL_law_671 : decode cL_law 671 = .ok (.iconst 0, 1) := by decide +kernel
theorem dL_law_672 : decode cL_law 672 = .ok (.ireturn, 1) := by decide +kernel
theorem dL_law_673 : decode cL_law 673 = .ok (.goto 618, 3) := by decide +kernel
theorem dL_law_676 : decode cL_law 676 = .ok (.aload_n 1, 1) := by decide +kernel
theorem dL_law_677 : decode cL_law 677 = .ok (.aload_n 0, 1) := by decide +kernel
theorem dL_law_678 : decode cL_law 678 = .ok (.iload 4, 2) := by decide +kernel
theorem dL_law_680 : decode cL_law 680 = .ok (.iconst 1, 1) := by decide +kernel
theorem dL_law_681 : decode cL_law 681 = .ok (.iadd, 1) := by decide +kernel
theorem dL_law_682 : decode cL_law 682 = .ok (.iaload, 1) := by decide +kernel
theorem dL_law_683 : decode cL_law 683 = .ok (.aload_n 0, 1) := by decide +kernel
theorem dL_law_684 : decode cL_law 684 = .ok (.iload 4, 2) := by decide +kernel
theorem dL_law_686 : decode cL_law 686 = .ok (.iconst 2, 1) := by decide +kernel
theorem dL_law_687 : decode cL_law 687 = .ok (.iadd, 1) := by decide +kernel
theorem dL_law_688 : decode cL_law 688 = .ok (.iaload, 1) := by decide +kernel
theorem dL_law_689 : decode cL_law 689 = .ok (.aload_n 0, 1) := by decide +kernel
theorem dL_law_690 : decode cL_law 690 = .ok (.iload 4, 2) := by decide +kernel
theorem dL_law_692 : decode cL_law 692 = .ok (.iconst 3, 1) := by decide +kernel
theorem dL_law_693 : decode cL_law 693 = .ok (.iadd, 1) := by decide +kernel
theorem dL_law_694 : decode cL_law 694 = .ok (.iaload, 1) := by decide +kernel
theorem dL_law_695 : decode cL_law 695 = .ok (.aload_n 3, 1) := by decide +kernel
theorem dL_law_696 : decode cL_law 696 = .ok (.invokestatic 105, 3) := by decide +kernel
theorem dL_law_699 : decode cL_law 699 = .ok (.istore 5, 2) := by decide +kernel
theorem dL_law_701 : decode cL_law 701 = .ok (.aload_n 2, 1) := by decide +kernel
theorem dL_law_702 : decode cL_law 702 = .ok (.aload_n 0, 1) := by decide +kernel
theorem dL_law_703 : decode cL_law 703 = .ok (.iload 4, 2) := by decide +kernel
theorem dL_law_705 : decode cL_law 705 = .ok (.iconst 1, 1) := by decide +kernel
theorem dL_law_706 : decode cL_law 706 = .ok (.iadd, 1) := by decide +kernel
theorem dL_law_707 : decode cL_law 707 = .ok (.iaload, 1) := by decide +kernel
theorem dL_law_708 : decode cL_law 708 = .ok (.aload_n 0, 1) := by decide +kernel
theorem dL_law_709 : decode cL_law 709 = .ok (.iload 4, 2) := by decide +kernel
theorem dL_law_711 : decode cL_law 711 = .ok (.iconst 2, 1) := by decide +kernel
theorem dL_law_712 : decode cL_law 712 = .ok (.iadd, 1) := by decide +kernel
theorem dL_law_713 : decode cL_law 713 = .ok (.iaload, 1) := by decide +kernel
theorem dL_law_714 : decode cL_law 714 = .ok (.aload_n 0, 1) := by decide +kernel
theorem dL_law_715 : decode cL_law 715 = .ok (.iload 4, 2) := by decide +kernel
theorem dL_law_717 : decode cL_law 717 = .ok (.iconst 3, 1) := by decide +kernel
theorem dL_law_718 : decode cL_law 718 = .ok (.iadd, 1) := by decide +kernel
theorem dL_law_719 : decode cL_law 719 = .ok (.iaload, 1) := by decide +kernel
theorem dL_law_720 : decode cL_law 720 = .ok (.invokevirtual 107, 3) := by decide +kernel
theorem dL_law_723 : decode cL_law 723 = .ok (.istore 6, 2) := by decide +kernel
theorem dL_law_725 : decode cL_law 725 = .ok (.aload_n 2, 1) := by decide +kernel
theorem dL_law_726 : decode cL_law 726 = .ok (.invokevirtual 78, 3) := by decide +kernel
theorem dL_law_729 : decode cL_law 729 = .ok (.iload 5, 2) := by decide +kernel
theorem dL_law_731 : decode cL_law 731 = .ok (.if_icmp .eq 5, 3) := by decide +kernel
theorem dL_law_734 : decode cL_law 734 = .ok (.iconst 0, 1) := by decide +kernel
theorem dL_law_735 : decode cL_law 735 = .ok (.ireturn, 1) := by decide +kernel
theorem dL_law_736 : decode cL_law 736 = .ok (.iload 5, 2) := by decide +kernel
theorem dL_law_738 : decode cL_law 738 = .ok (.ifCond .ne 15, 3) := by decide +kernel
theorem dL_law_741 : decode cL_law 741 = .ok (.aload_n 3, 1) := by decide +kernel
theorem dL_law_742 : decode cL_law 742 = .ok (.iconst 0, 1) := by decide +kernel
theorem dL_law_743 : decode cL_law 743 = .ok (.laload, 1) := by decide +kernel
theorem dL_law_744 : decode cL_law 744 = .ok (.iload 6, 2) := by decide +kernel
theorem dL_law_746 : decode cL_law 746 = .ok (.i2l, 1) := by decide +kernel
theorem dL_law_747 : decode cL_law 747 = .ok (.lcmp, 1) := by decide +kernel
theorem dL_law_748 : decode cL_law 748 = .ok (.ifCond .eq 5, 3) := by decide +kernel
theorem dL_law_751 : decode cL_law 751 = .ok (.iconst 0, 1) := by decide +kernel
theorem dL_law_752 : decode cL_law 752 = .ok (.ireturn, 1) := by decide +kernel
theorem dL_law_753 : decode cL_law 753 = .ok (.goto 538, 3) := by decide +kernel
theorem dL_law_756 : decode cL_law 756 = .ok (.aload_n 1, 1) := by decide +kernel
theorem dL_law_757 : decode cL_law 757 = .ok (.aload_n 0, 1) := by decide +kernel
theorem dL_law_758 : decode cL_law 758 = .ok (.iload 4, 2) := by decide +kernel
theorem dL_law_760 : decode cL_law 760 = .ok (.iconst 1, 1) := by decide +kernel
theorem dL_law_761 : decode cL_law 761 = .ok (.iadd, 1) := by decide +kernel
theorem dL_law_762 : decode cL_law 762 = .ok (.iaload, 1) := by decide +kernel
theorem dL_law_763 : decode cL_law 763 = .ok (.aload_n 0, 1) := by decide +kernel
theorem dL_law_764 : decode cL_law 764 = .ok (.iload 4, 2) := by decide +kernel
theorem dL_law_766 : decode cL_law 766 = .ok (.iconst 2, 1) := by decide +kernel
theorem dL_law_767 : decode cL_law 767 = .ok (.iadd, 1) := by decide +kernel
theorem dL_law_768 : decode cL_law 768 = .ok (.iaload, 1) := by decide +kernel
theorem dL_law_769 : decode cL_law 769 = .ok (.aload_n 0, 1) := by decide +kernel
theorem dL_law_770 : decode cL_law 770 = .ok (.iload 4, 2) := by decide +kernel
theorem dL_law_772 : decode cL_law 772 = .ok (.iconst 3, 1) := by decide +kernel
theorem dL_law_773 : decode cL_law 773 = .ok (.iadd, 1) := by decide +kernel
theorem dL_law_774 : decode cL_law 774 = .ok (.iaload, 1) := by decide +kernel
theorem dL_law_775 : decode cL_law 775 = .ok (.aload_n 3, 1) := by decide +kernel
theorem dL_law_776 : decode cL_law 776 = .ok (.invokestatic 108, 3) := by decide +kernel
theorem dL_law_779 : decode cL_law 779 = .ok (.istore 5, 2) := by decide +kernel
theorem dL_law_781 : decode cL_law 781 = .ok (.aload_n 2, 1) := by decide +kernel
theorem dL_law_782 : decode cL_law 782 = .ok (.aload_n 0, 1) := by decide +kernel
theorem dL_law_783 : decode cL_law 783 = .ok (.iload 4, 2) := by decide +kernel
theorem dL_law_785 : decode cL_law 785 = .ok (.iconst 1, 1) := by decide +kernel
theorem dL_law_786 : decode cL_law 786 = .ok (.iadd, 1) := by decide +kernel
theorem dL_law_787 : decode cL_law 787 = .ok (.iaload, 1) := by decide +kernel
theorem dL_law_788 : decode cL_law 788 = .ok (.aload_n 0, 1) := by decide +kernel
theorem dL_law_789 : decode cL_law 789 = .ok (.iload 4, 2) := by decide +kernel
theorem dL_law_791 : decode cL_law 791 = .ok (.iconst 2, 1) := by decide +kernel
theorem dL_law_792 : decode cL_law 792 = .ok (.iadd, 1) := by decide +kernel
theorem dL_law_793 : decode cL_law 793 = .ok (.iaload, 1) := by decide +kernel
theorem dL_law_794 : decode cL_law 794 = .ok (.aload_n 0, 1) := by decide +kernel
theorem dL_law_795 : decode cL_law 795 = .ok (.iload 4, 2) := by decide +kernel
theorem dL_law_797 : decode cL_law 797 = .ok (.iconst 3, 1) := by decide +kernel
theorem dL_law_798 : decode cL_law 798 = .ok (.iadd, 1) := by decide +kernel
theorem dL_law_799 : decode cL_law 799 = .ok (.iaload, 1) := by decide +kernel
theorem dL_law_800 : decode cL_law 800 = .ok (.invokevirtual 110, 3) := by decide +kernel
theorem dL_law_803 : decode cL_law 803 = .ok (.istore 6, 2) := by decide +kernel
theorem dL_law_805 : decode cL_law 805 = .ok (.aload_n 2, 1) := by decide +kernel
theorem dL_law_806 : decode cL_law 806 = .ok (.invokevirtual 78, 3) := by decide +kernel
theorem dL_law_809 : decode cL_law 809 = .ok (.iload 5, 2) := by decide +kernel
theorem dL_law_811 : decode cL_law 811 = .ok (.if_icmp .eq 5, 3) := by decide +kernel
theorem dL_law_814 : decode cL_law 814 = .ok (.iconst 0, 1) := by decide +kernel
theorem dL_law_815 : decode cL_law 815 = .ok (.ireturn, 1) := by decide +kernel
theorem dL_law_816 : decode cL_law 816 = .ok (.iload 5, 2) := by decide +kernel
theorem dL_law_818 : decode cL_law 818 = .ok (.ifCond .ne 15, 3) := by decide +kernel
theorem dL_law_821 : decode cL_law 821 = .ok (.aload_n 3, 1) := by decide +kernel
theorem dL_law_822 : decode cL_law 822 = .ok (.iconst 0, 1) := by decide +kernel
theorem dL_law_823 : decode cL_law 823 = .ok (.laload, 1) := by decide +kernel
theorem dL_law_824 : decode cL_law 824 = .ok (.iload 6, 2) := by decide +kernel
theorem dL_law_826 : decode cL_law 826 = .ok (.i2l, 1) := by decide +kernel
theorem dL_law_827 : decode cL_law 827 = .ok (.lcmp, 1) := by decide +kernel
theorem dL_law_828 : decode cL_law 828 = .ok (.ifCond .eq 5, 3) := by decide +kernel
theorem dL_law_831 : decode cL_law 831 = .ok (.iconst 0, 1) := by decide +kernel
theorem dL_law_832 : decode cL_law 832 = .ok (.ireturn, 1) := by decide +kernel
theorem dL_law_833 : decode cL_law 833 = .ok (.goto 458, 3) := by decide +kernel
theorem dL_law_836 : decode cL_law 836 = .ok (.aload_n 1, 1) := by decide +kernel
theorem dL_law_837 : decode cL_law 837 = .ok (.aload_n 0, 1) := by decide +kernel
theorem dL_law_838 : decode cL_law 838 = .ok (.iload 4, 2) := by decide +kernel
theorem dL_law_840 : decode cL_law 840 = .ok (.iconst 1, 1) := by decide +kernel
theorem dL_law_841 : decode cL_law 841 = .ok (.iadd, 1) := by decide +kernel
theorem dL_law_842 : decode cL_law 842 = .ok (.iaload, 1) := by decide +kernel
theorem dL_law_843 : decode cL_law 843 = .ok (.aload_n 3, 1) := by decide +kernel
theorem dL_law_844 : decode cL_law 844 = .ok (.invokestatic 111, 3) := by decide +kernel
theorem dL_law_847 : decode cL_law 847 = .ok (.istore 5, 2) := by decide +kernel
theorem dL_law_849 : decode cL_law 849 = .ok (.aload_n 2, 1) := by decide +kernel
theorem dL_law_850 : decode cL_law 850 = .ok (.aload_n 0, 1) := by decide +kernel
theorem dL_law_851 : decode cL_law 851 = .ok (.iload 4, 2) := by decide +kernel
theorem dL_law_853 : decode cL_law 853 = .ok (.iconst 1, 1) := by decide +kernel
theorem dL_law_854 : decode cL_law 854 = .ok (.iadd, 1) := by decide +kernel
theorem dL_law_855 : decode cL_law 855 = .ok (.iaload, 1) := by decide +kernel
theorem dL_law_856 : decode cL_law 856 = .ok (.invokevirtual 113, 3) := by decide +kernel
theorem dL_law_859 : decode cL_law 859 = .ok (.istore 6, 2) := by decide +kernel
theorem dL_law_861 : decode cL_law 861 = .ok (.aload_n 2, 1) := by decide +kernel
theorem dL_law_862 : decode cL_law 862 = .ok (.invokevirtual 78, 3) := by decide +kernel
theorem dL_law_865 : decode cL_law 865 = .ok (.iload 5, 2) := by decide +kernel
theorem dL_law_867 : decode cL_law 867 = .ok (.if_icmp .eq 5, 3) := by decide +kernel
theorem dL_law_870 : decode cL_law 870 = .ok (.iconst 0, 1) := by decide +kernel
theorem dL_law_871 : decode cL_law 871 = .ok (.ireturn, 1) := by decide +kernel
theorem dL_law_872 : decode cL_law 872 = .ok (.iload 5, 2) := by decide +kernel
theorem dL_law_874 : decode cL_law 874 = .ok (.ifCond .ne 15, 3) := by decide +kernel
theorem dL_law_877 : decode cL_law 877 = .ok (.aload_n 3, 1) := by decide +kernel
theorem dL_law_878 : decode cL_law 878 = .ok (.iconst 0, 1) := by decide +kernel
theorem dL_law_879 : decode cL_law 879 = .ok (.laload, 1) := by decide +kernel
theorem dL_law_880 : decode cL_law 880 = .ok (.iload 6, 2) := by decide +kernel
theorem dL_law_882 : decode cL_law 882 = .ok (.i2l, 1) := by decide +kernel
theorem dL_law_883 : decode cL_law 883 = .ok (.lcmp, 1) := by decide +kernel
theorem dL_law_884 : decode cL_law 884 = .ok (.ifCond .eq 5, 3) := by decide +kernel
theorem dL_law_887 : decode cL_law 887 = .ok (.iconst 0, 1) := by decide +kernel
theorem dL_law_888 : decode cL_law 888 = .ok (.ireturn, 1) := by decide +kernel
theorem dL_law_889 : decode cL_law 889 = .ok (.goto 402, 3) := by decide +kernel
theorem dL_law_892 : decode cL_law 892 = .ok (.aload_n 1, 1) := by decide +kernel
theorem dL_law_893 : decode cL_law 893 = .ok (.invokevirtual 114, 3) := by decide +kernel
theorem dL_law_896 : decode cL_law 896 = .ok (.aload_n 2, 1) := by decide +kernel
theorem dL_law_897 : decode cL_law 897 = .ok (.invokevirtual 117, 3) := by decide +kernel
theorem dL_law_900 : decode cL_law 900 = .ok (.if_icmp .eq 391, 3) := by decide +kernel
theorem dL_law_903 : decode cL_law 903 = .ok (.iconst 0, 1) := by decide +kernel
theorem dL_law_904 : decode cL_law 904 = .ok (.ireturn, 1) := by decide +kernel
theorem dL_law_905 : decode cL_law 905 = .ok (.aload_n 1, 1) := by decide +kernel
theorem dL_law_906 : decode cL_law 906 = .ok (.aload_n 0, 1) := by decide +kernel
theorem dL_law_907 : decode cL_law 907 = .ok (.iload 4, 2) := by decide +kernel
theorem dL_law_909 : decode cL_law 909 = .ok (.iconst 1, 1) := by decide +kernel
theorem dL_law_910 : decode cL_law 910 = .ok (.iadd, 1) := by decide +kernel
theorem dL_law_911 : decode cL_law 911 = .ok (.iaload, 1) := by decide +kernel
theorem dL_law_912 : decode cL_law 912 = .ok (.aload_n 3, 1) := by decide +kernel
theorem dL_law_913 : decode cL_law 913 = .ok (.invokestatic 118, 3) := by decide +kernel
theorem dL_law_916 : decode cL_law 916 = .ok (.istore 5, 2) := by decide +kernel
theorem dL_law_918 : decode cL_law 918 = .ok (.aload_n 2, 1) := by decide +kernel
theorem dL_law_919 : decode cL_law 919 = .ok (.aload_n 0, 1) := by decide +kernel
theorem dL_law_920 : decode cL_law 920 = .ok (.iload 4, 2) := by decide +kernel
theorem dL_law_922 : decode cL_law 922 = .ok (.iconst 1, 1) := by decide +kernel
theorem dL_law_923 : decode cL_law 923 = .ok (.iadd, 1) := by decide +kernel
theorem dL_law_924 : decode cL_law 924 = .ok (.iaload, 1) := by decide +kernel
theorem dL_law_925 : decode cL_law 925 = .ok (.invokevirtual 120, 3) := by decide +kernel
theorem dL_law_928 : decode cL_law 928 = .ok (.istore 6, 2) := by decide +kernel
theorem dL_law_930 : decode cL_law 930 = .ok (.aload_n 2, 1) := by decide +kernel
theorem dL_law_931 : decode cL_law 931 = .ok (.invokevirtual 78, 3) := by decide +kernel
theorem dL_law_934 : decode cL_law 934 = .ok (.iload 5, 2) := by decide +kernel
theorem dL_law_936 : decode cL_law 936 = .ok (.if_icmp .eq 5, 3) := by decide +kernel
theorem dL_law_939 : decode cL_law 939 = .ok (.iconst 0, 1) := by decide +kernel
theorem dL_law_940 : decode cL_law 940 = .ok (.ireturn, 1) := by decide +kernel
theorem dL_law_941 : decode cL_law 941 = .ok (.iload 5, 2) := by decide +kernel
theorem dL_law_943 : decode cL_law 943 = .ok (.ifCond .ne 15, 3) := by decide +kernel
theorem dL_law_946 : decode cL_law 946 = .ok (.aload_n 3, 1) := by decide +kernel
theorem dL_law_947 : decode cL_law 947 = .ok (.iconst 0, 1) := by decide +kernel
theorem dL_law_948 : decode cL_law 948 = .ok (.laload, 1) := by decide +kernel
theorem dL_law_949 : decode cL_law 949 = .ok (.iload 6, 2) := by decide +kernel
theorem dL_law_951 : decode cL_law 951 = .ok (.i2l, 1) := by decide +kernel
theorem dL_law_952 : decode cL_law 952 = .ok (.lcmp, 1) := by decide +kernel
theorem dL_law_953 : decode cL_law 953 = .ok (.ifCond .eq 5, 3) := by decide +kernel
theorem dL_law_956 : decode cL_law 956 = .ok (.iconst 0, 1) := by decide +kernel
theorem dL_law_957 : decode cL_law 957 = .ok (.ireturn, 1) := by decide +kernel
theorem dL_law_958 : decode cL_law 958 = .ok (.goto 333, 3) := by decide +kernel
theorem dL_law_961 : decode cL_law 961 = .ok (.aload_n 1, 1) := by decide +kernel
theorem dL_law_962 : decode cL_law 962 = .ok (.aload_n 0, 1) := by decide +kernel
theorem dL_law_963 : decode cL_law 963 = .ok (.iload 4, 2) := by decide +kernel
theorem dL_law_965 : decode cL_law 965 = .ok (.iconst 1, 1) := by decide +kernel
theorem dL_law_966 : decode cL_law 966 = .ok (.iadd, 1) := by decide +kernel
theorem dL_law_967 : decode cL_law 967 = .ok (.iaload, 1) := by decide +kernel
theorem dL_law_968 : decode cL_law 968 = .ok (.aload_n 3, 1) := by decide +kernel
theorem dL_law_969 : decode cL_law 969 = .ok (.invokestatic 121, 3) := by decide +kernel
theorem dL_law_972 : decode cL_law 972 = .ok (.istore 5, 2) := by decide +kernel
theorem dL_law_974 : decode cL_law 974 = .ok (.aload_n 2, 1) := by decide +kernel
theorem dL_law_975 : decode cL_law 975 = .ok (.aload_n 0, 1) := by decide +kernel
theorem dL_law_976 : decode cL_law 976 = .ok (.iload 4, 2) := by decide +kernel
theorem dL_law_978 : decode cL_law 978 = .ok (.iconst 1, 1) := by decide +kernel
theorem dL_law_979 : decode cL_law 979 = .ok (.iadd, 1) := by decide +kernel
theorem dL_law_980 : decode cL_law 980 = .ok (.iaload, 1) := by decide +kernel
theorem dL_law_981 : decode cL_law 981 = .ok (.invokevirtual 123, 3) := by decide +kernel
theorem dL_law_984 : decode cL_law 984 = .ok (.istore 6, 2) := by decide +kernel
theorem dL_law_986 : decode cL_law 986 = .ok (.aload_n 2, 1) := by decide +kernel
theorem dL_law_987 : decode cL_law 987 = .ok (.invokevirtual 78, 3) := by decide +kernel
theorem dL_law_990 : decode cL_law 990 = .ok (.iload 5, 2) := by decide +kernel
theorem dL_law_992 : decode cL_law 992 = .ok (.if_icmp .eq 5, 3) := by decide +kernel
theorem dL_law_995 : decode cL_law 995 = .ok (.iconst 0, 1) := by decide +kernel
theorem dL_law_996 : decode cL_law 996 = .ok (.ireturn, 1) := by decide +kernel
theorem dL_law_997 : decode cL_law 997 = .ok (.iload 5, 2) := by decide +kernel
theorem dL_law_999 : decode cL_law 999 = .ok (.ifCond .ne 15, 3) := by decide +kernel
theorem dL_law_1002 : decode cL_law 1002 = .ok (.aload_n 3, 1) := by decide +kernel
theorem dL_law_1003 : decode cL_law 1003 = .ok (.iconst 0, 1) := by decide +kernel
theorem dL_law_1004 : decode cL_law 1004 = .ok (.laload, 1) := by decide +kernel
theorem dL_law_1005 : decode cL_law 1005 = .ok (.iload 6, 2) := by decide +kernel
theorem dL_law_1007 : decode cL_law 1007 = .ok (.i2l, 1) := by decide +kernel
theorem dL_law_1008 : decode cL_law 1008 = .ok (.lcmp, 1) := by decide +kernel
theorem dL_law_1009 : decode cL_law 1009 = .ok (.ifCond .eq 5, 3) := by decide +kernel
theorem dL_law_1012 : decode cL_law 1012 = .ok (.iconst 0, 1) := by decide +kernel
theorem dL_law_1013 : decode cL_law 1013 = .ok (.ireturn, 1) := by decide +kernel
theorem dL_law_1014 : decode cL_law 1014 = .ok (.goto 277, 3) := by decide +kernel
theorem dL_law_1017 : decode cL_law 1017 = .ok (.aload_n 1, 1) := by decide +kernel
theorem dL_law_1018 : decode cL_law 1018 = .ok (.aload_n 0, 1) := by decide +kernel
theorem dL_law_1019 : decode cL_law 1019 = .ok (.iload 4, 2) := by decide +kernel
theorem dL_law_1021 : decode cL_law 1021 = .ok (.iconst 1, 1) := by decide +kernel
theorem dL_law_1022 : decode cL_law 1022 = .ok (.iadd, 1) := by decide +kernel
theorem dL_law_1023 : decode cL_law 1023 = .ok (.iaload, 1) := by decide +kernel
theorem dL_law_1024 : decode cL_law 1024 = .ok (.aload_n 3, 1) := by decide +kernel
theorem dL_law_1025 : decode cL_law 1025 = .ok (.invokestatic 124, 3) := by decide +kernel
theorem dL_law_1028 : decode cL_law 1028 = .ok (.istore 5, 2) := by decide +kernel
theorem dL_law_1030 : decode cL_law 1030 = .ok (.aload_n 2, 1) := by decide +kernel
theorem dL_law_1031 : decode cL_law 1031 = .ok (.aload_n 0, 1) := by decide +kernel
theorem dL_law_1032 : decode cL_law 1032 = .ok (.iload 4, 2) := by decide +kernel
theorem dL_law_1034 : decode cL_law 1034 = .ok (.iconst 1, 1) := by decide +kernel
theorem dL_law_1035 : decode cL_law 1035 = .ok (.iadd, 1) := by decide +kernel
theorem dL_law_1036 : decode cL_law 1036 = .ok (.iaload, 1) := by decide +kernel
theorem dL_law_1037 : decode cL_law 1037 = .ok (.invokevirtual 126, 3) := by decide +kernel
theorem dL_law_1040 : decode cL_law 1040 = .ok (.istore 6, 2) := by decide +kernel
theorem dL_law_1042 : decode cL_law 1042 = .ok (.aload_n 2, 1) := by decide +kernel
theorem dL_law_1043 : decode cL_law 1043 = .ok (.invokevirtual 78, 3) := by decide +kernel
theorem dL_law_1046 : decode cL_law 1046 = .ok (.iload 5, 2) := by decide +kernel
theorem dL_law_1048 : decode cL_law 1048 = .ok (.if_icmp .eq 5, 3) := by decide +kernel
theorem dL_law_1051 : decode cL_law 1051 = .ok (.iconst 0, 1) := by decide +kernel
theorem dL_law_1052 : decode cL_law 1052 = .ok (.ireturn, 1) := by decide +kernel
theorem dL_law_1053 : decode cL_law 1053 = .ok (.iload 5, 2) := by decide +kernel
theorem dL_law_1055 : decode cL_law 1055 = .ok (.ifCond .ne 15, 3) := by decide +kernel
theorem dL_law_1058 : decode cL_law 1058 = .ok (.aload_n 3, 1) := by decide +kernel
theorem dL_law_1059 : decode cL_law 1059 = .ok (.iconst 0, 1) := by decide +kernel
theorem dL_law_1060 : decode cL_law 1060 = .ok (.laload, 1) := by decide +kernel
theorem dL_law_1061 : decode cL_law 1061 = .ok (.iload 6, 2) := by decide +kernel
theorem dL_law_1063 : decode cL_law 1063 = .ok (.i2l, 1) := by decide +kernel
theorem dL_law_1064 : decode cL_law 1064 = .ok (.lcmp, 1) := by decide +kernel
theorem dL_law_1065 : decode cL_law 1065 = .ok (.ifCond .eq 5, 3) := by decide +kernel
theorem dL_law_1068 : decode cL_law 1068 = .ok (.iconst 0, 1) := by decide +kernel
theorem dL_law_1069 : decode cL_law 1069 = .ok (.ireturn, 1) := by decide +kernel
theorem dL_law_1070 : decode cL_law 1070 = .ok (.goto 221, 3) := by decide +kernel
theorem dL_law_1073 : decode cL_law 1073 = .ok (.aload_n 1, 1) := by decide +kernel
theorem dL_law_1074 : decode cL_law 1074 = .ok (.aload_n 0, 1) := by decide +kernel
theorem dL_law_1075 : decode cL_law 1075 = .ok (.iload 4, 2) := by decide +kernel
theorem dL_law_1077 : decode cL_law 1077 = .ok (.iconst 1, 1) := by decide +kernel
theorem dL_law_1078 : decode cL_law 1078 = .ok (.iadd, 1) := by decide +kernel
theorem dL_law_1079 : decode cL_law 1079 = .ok (.iaload, 1) := by decide +kernel
theorem dL_law_1080 : decode cL_law 1080 = .ok (.aload_n 3, 1) := by decide +kernel
theorem dL_law_1081 : decode cL_law 1081 = .ok (.invokestatic 127, 3) := by decide +kernel
theorem dL_law_1084 : decode cL_law 1084 = .ok (.istore 5, 2) := by decide +kernel
theorem dL_law_1086 : decode cL_law 1086 = .ok (.aload_n 2, 1) := by decide +kernel
theorem dL_law_1087 : decode cL_law 1087 = .ok (.aload_n 0, 1) := by decide +kernel
theorem dL_law_1088 : decode cL_law 1088 = .ok (.iload 4, 2) := by decide +kernel
theorem dL_law_1090 : decode cL_law 1090 = .ok (.iconst 1, 1) := by decide +kernel
theorem dL_law_1091 : decode cL_law 1091 = .ok (.iadd, 1) := by decide +kernel
theorem dL_law_1092 : decode cL_law 1092 = .ok (.iaload, 1) := by decide +kernel
theorem dL_law_1093 : decode cL_law 1093 = .ok (.invokevirtual 129, 3) := by decide +kernel
theorem dL_law_1096 : decode cL_law 1096 = .ok (.istore 6, 2) := by decide +kernel
theorem dL_law_1098 : decode cL_law 1098 = .ok (.aload_n 2, 1) := by decide +kernel
theorem dL_law_1099 : decode cL_law 1099 = .ok (.invokevirtual 78, 3) := by decide +kernel
theorem dL_law_1102 : decode cL_law 1102 = .ok (.iload 5, 2) := by decide +kernel
theorem dL_law_1104 : decode cL_law 1104 = .ok (.if_icmp .eq 5, 3) := by decide +kernel
theorem dL_law_1107 : decode cL_law 1107 = .ok (.iconst 0, 1) := by decide +kernel
theorem dL_law_1108 : decode cL_law 1108 = .ok (.ireturn, 1) := by decide +kernel
theorem dL_law_1109 : decode cL_law 1109 = .ok (.iload 5, 2) := by decide +kernel
theorem dL_law_1111 : decode cL_law 1111 = .ok (.ifCond .ne 15, 3) := by decide +kernel
theorem dL_law_1114 : decode cL_law 1114 = .ok (.aload_n 3, 1) := by decide +kernel
theorem dL_law_1115 : decode cL_law 1115 = .ok (.iconst 0, 1) := by decide +kernel
theorem dL_law_1116 : decode cL_law 1116 = .ok (.laload, 1) := by decide +kernel
theorem dL_law_1117 : decode cL_law 1117 = .ok (.iload 6, 2) := by decide +kernel
theorem dL_law_1119 : decode cL_law 1119 = .ok (.i2l, 1) := by decide +kernel
theorem dL_law_1120 : decode cL_law 1120 = .ok (.lcmp, 1) := by decide +kernel
theorem dL_law_1121 : decode cL_law 1121 = .ok (.ifCond .eq 5, 3) := by decide +kernel
theorem dL_law_1124 : decode cL_law 1124 = .ok (.iconst 0, 1) := by decide +kernel
theorem dL_law_1125 : decode cL_law 1125 = .ok (.ireturn, 1) := by decide +kernel
theorem dL_law_1126 : decode cL_law 1126 = .ok (.goto 165, 3) := by decide +kernel
theorem dL_law_1129 : decode cL_law 1129 = .ok (.aload_n 1, 1) := by decide +kernel
theorem dL_law_1130 : decode cL_law 1130 = .ok (.aload_n 0, 1) := by decide +kernel
theorem dL_law_1131 : decode cL_law 1131 = .ok (.iload 4, 2) := by decide +kernel
theorem dL_law_1133 : decode cL_law 1133 = .ok (.iconst 1, 1) := by decide +kernel
theorem dL_law_1134 : decode cL_law 1134 = .ok (.iadd, 1) := by decide +kernel
theorem dL_law_1135 : decode cL_law 1135 = .ok (.iaload, 1) := by decide +kernel
theorem dL_law_1136 : decode cL_law 1136 = .ok (.aload_n 3, 1) := by decide +kernel
theorem dL_law_1137 : decode cL_law 1137 = .ok (.invokestatic 130, 3) := by decide +kernel
theorem dL_law_1140 : decode cL_law 1140 = .ok (.istore 5, 2) := by decide +kernel
theorem dL_law_1142 : decode cL_law 1142 = .ok (.aload_n 2, 1) := by decide +kernel
theorem dL_law_1143 : decode cL_law 1143 = .ok (.aload_n 0, 1) := by decide +kernel
theorem dL_law_1144 : decode cL_law 1144 = .ok (.iload 4, 2) := by decide +kernel
theorem dL_law_1146 : decode cL_law 1146 = .ok (.iconst 1, 1) := by decide +kernel
theorem dL_law_1147 : decode cL_law 1147 = .ok (.iadd, 1) := by decide +kernel
theorem dL_law_1148 : decode cL_law 1148 = .ok (.iaload, 1) := by decide +kernel
theorem dL_law_1149 : decode cL_law 1149 = .ok (.invokevirtual 132, 3) := by decide +kernel
theorem dL_law_1152 : decode cL_law 1152 = .ok (.istore 6, 2) := by decide +kernel
theorem dL_law_1154 : decode cL_law 1154 = .ok (.aload_n 2, 1) := by decide +kernel
theorem dL_law_1155 : decode cL_law 1155 = .ok (.invokevirtual 78, 3) := by decide +kernel
theorem dL_law_1158 : decode cL_law 1158 = .ok (.iload 5, 2) := by decide +kernel
theorem dL_law_1160 : decode cL_law 1160 = .ok (.if_icmp .eq 5, 3) := by decide +kernel
theorem dL_law_1163 : decode cL_law 1163 = .ok (.iconst 0, 1) := by decide +kernel
theorem dL_law_1164 : decode cL_law 1164 = .ok (.ireturn, 1) := by decide +kernel
theorem dL_law_1165 : decode cL_law 1165 = .ok (.iload 5, 2) := by decide +kernel
theorem dL_law_1167 : decode cL_law 1167 = .ok (.ifCond .ne 15, 3) := by decide +kernel
theorem dL_law_1170 : decode cL_law 1170 = .ok (.aload_n 3, 1) := by decide +kernel
theorem dL_law_1171 : decode cL_law 1171 = .ok (.iconst 0, 1) := by decide +kernel
theorem dL_law_1172 : decode cL_law 1172 = .ok (.laload, 1) := by decide +kernel
theorem dL_law_1173 : decode cL_law 1173 = .ok (.iload 6, 2) := by decide +kernel
theorem dL_law_1175 : decode cL_law 1175 = .ok (.i2l, 1) := by decide +kernel
theorem dL_law_1176 : decode cL_law 1176 = .ok (.lcmp, 1) := by decide +kernel
theorem dL_law_1177 : decode cL_law 1177 = .ok (.ifCond .eq 5, 3) := by decide +kernel
theorem dL_law_1180 : decode cL_law 1180 = .ok (.iconst 0, 1) := by decide +kernel
theorem dL_law_1181 : decode cL_law 1181 = .ok (.ireturn, 1) := by decide +kernel
theorem dL_law_1182 : decode cL_law 1182 = .ok (.goto 109, 3) := by decide +kernel
theorem dL_law_1185 : decode cL_law 1185 = .ok (.aload_n 1, 1) := by decide +kernel
theorem dL_law_1186 : decode cL_law 1186 = .ok (.invokevirtual 133, 3) := by decide +kernel
theorem dL_law_1189 : decode cL_law 1189 = .ok (.aload_n 2, 1) := by decide +kernel
theorem dL_law_1190 : decode cL_law 1190 = .ok (.invokevirtual 136, 3) := by decide +kernel
theorem dL_law_1193 : decode cL_law 1193 = .ok (.if_icmp .eq 98, 3) := by decide +kernel
theorem dL_law_1196 : decode cL_law 1196 = .ok (.iconst 0, 1) := by decide +kernel
theorem dL_law_1197 : decode cL_law 1197 = .ok (.ireturn, 1) := by decide +kernel
theorem dL_law_1198 : decode cL_law 1198 = .ok (.aload_n 1, 1) := by decide +kernel
theorem dL_law_1199 : decode cL_law 1199 = .ok (.invokevirtual 137, 3) := by decide +kernel
theorem dL_law_1202 : decode cL_law 1202 = .ok (.aload_n 2, 1) := by decide +kernel
theorem dL_law_1203 : decode cL_law 1203 = .ok (.invokevirtual 140, 3) := by decide +kernel
theorem dL_law_1206 : decode cL_law 1206 = .ok (.if_icmp .eq 85, 3) := by decide +kernel
theorem dL_law_1209 : decode cL_law 1209 = .ok (.iconst 0, 1) := by decide +kernel
theorem dL_law_1210 : decode cL_law 1210 = .ok (.ireturn, 1) := by decide +kernel
theorem dL_law_1211 : decode cL_law 1211 = .ok (.aload_n 1, 1) := by decide +kernel
theorem dL_law_1212 : decode cL_law 1212 = .ok (.invokevirtual 141, 3) := by decide +kernel
theorem dL_law_1215 : decode cL_law 1215 = .ok (.aload_n 2, 1) := by decide +kernel
theorem dL_law_1216 : decode cL_law 1216 = .ok (.invokevirtual 144, 3) := by decide +kernel
theorem dL_law_1219 : decode cL_law 1219 = .ok (.if_icmp .eq 72, 3) := by decide +kernel
theorem dL_law_1222 : decode cL_law 1222 = .ok (.iconst 0, 1) := by decide +kernel
theorem dL_law_1223 : decode cL_law 1223 = .ok (.ireturn, 1) := by decide +kernel
theorem dL_law_1224 : decode cL_law 1224 = .ok (.aload_n 1, 1) := by decide +kernel
theorem dL_law_1225 : decode cL_law 1225 = .ok (.invokevirtual 145, 3) := by decide +kernel
theorem dL_law_1228 : decode cL_law 1228 = .ok (.aload_n 2, 1) := by decide +kernel
theorem dL_law_1229 : decode cL_law 1229 = .ok (.invokevirtual 148, 3) := by decide +kernel
theorem dL_law_1232 : decode cL_law 1232 = .ok (.if_icmp .eq 59, 3) := by decide +kernel
theorem dL_law_1235 : decode cL_law 1235 = .ok (.iconst 0, 1) := by decide +kernel
theorem dL_law_1236 : decode cL_law 1236 = .ok (.ireturn, 1) := by decide +kernel
theorem dL_law_1237 : decode cL_law 1237 = .ok (.aload_n 1, 1) := by decide +kernel
theorem dL_law_1238 : decode cL_law 1238 = .ok (.invokevirtual 149, 3) := by decide +kernel
theorem dL_law_1241 : decode cL_law 1241 = .ok (.aload_n 2, 1) := by decide +kernel
theorem dL_law_1242 : decode cL_law 1242 = .ok (.invokevirtual 152, 3) := by decide +kernel
theorem dL_law_1245 : decode cL_law 1245 = .ok (.if_icmp .eq 46, 3) := by decide +kernel
theorem dL_law_1248 : decode cL_law 1248 = .ok (.iconst 0, 1) := by decide +kernel
theorem dL_law_1249 : decode cL_law 1249 = .ok (.ireturn, 1) := by decide +kernel
theorem dL_law_1250 : decode cL_law 1250 = .ok (.aload_n 1, 1) := by decide +kernel
theorem dL_law_1251 : decode cL_law 1251 = .ok (.invokevirtual 153, 3) := by decide +kernel
theorem dL_law_1254 : decode cL_law 1254 = .ok (.dstore 5, 2) := by decide +kernel
theorem dL_law_1256 : decode cL_law 1256 = .ok (.aload_n 2, 1) := by decide +kernel
theorem dL_law_1257 : decode cL_law 1257 = .ok (.invokevirtual 157, 3) := by decide +kernel
theorem dL_law_1260 : decode cL_law 1260 = .ok (.dstore 7, 2) := by decide +kernel
theorem dL_law_1262 : decode cL_law 1262 = .ok (.dload 5, 2) := by decide +kernel
theorem dL_law_1264 : decode cL_law 1264 = .ok (.dload 7, 2) := by decide +kernel
theorem dL_law_1266 : decode cL_law 1266 = .ok (.dcmp .l, 1) := by decide +kernel
theorem dL_law_1267 : decode cL_law 1267 = .ok (.ifCond .eq 21, 3) := by decide +kernel
theorem dL_law_1270 : decode cL_law 1270 = .ok (.dload 5, 2) := by decide +kernel
theorem dL_law_1272 : decode cL_law 1272 = .ok (.dload 5, 2) := by decide +kernel
theorem dL_law_1274 : decode cL_law 1274 = .ok (.dcmp .l, 1) := by decide +kernel
theorem dL_law_1275 : decode cL_law 1275 = .ok (.ifCond .eq 11, 3) := by decide +kernel
theorem dL_law_1278 : decode cL_law 1278 = .ok (.dload 7, 2) := by decide +kernel
theorem dL_law_1280 : decode cL_law 1280 = .ok (.dload 7, 2) := by decide +kernel
theorem dL_law_1282 : decode cL_law 1282 = .ok (.dcmp .l, 1) := by decide +kernel
theorem dL_law_1283 : decode cL_law 1283 = .ok (.ifCond .ne 5, 3) := by decide +kernel
theorem dL_law_1286 : decode cL_law 1286 = .ok (.iconst 0, 1) := by decide +kernel
theorem dL_law_1287 : decode cL_law 1287 = .ok (.ireturn, 1) := by decide +kernel
theorem dL_law_1288 : decode cL_law 1288 = .ok (.goto 3, 3) := by decide +kernel
theorem dL_law_1291 : decode cL_law 1291 = .ok (.iinc 4 4, 3) := by decide +kernel
theorem dL_law_1294 : decode cL_law 1294 = .ok (.goto (-1271), 3) := by decide +kernel
theorem dL_law_1297 : decode cL_law 1297 = .ok (.iconst 1, 1) := by decide +kernel
theorem dL_law_1298 : decode cL_law 1298 = .ok (.ireturn, 1) := by decide +kernel
abbrev vwCl : List vw_C := [(RX0, TX0, 9), (RX1, TX1, 4), (RX2, TX2, 3), (RX3, TX3, 18)]
