theorem dX0_isCell_0 : decode cX0_isCell 0 = .ok (.iload_n 0, 1) := by decide +kernel
theorem dX0_isCell_1 : decode cX0_isCell 1 = .ok (.ifCond .lt 13, 3) := by decide +kernel
theorem dX0_isCell_4 : decode cX0_isCell 4 = .ok (.iload_n 0, 1) := by decide +kernel
theorem dX0_isCell_5 : decode cX0_isCell 5 = .ok (.bipush 64, 2) := by decide +kernel
theorem dX0_isCell_7 : decode cX0_isCell 7 = .ok (.if_icmp .ge 7, 3) := by decide +kernel
theorem dX0_isCell_10 : decode cX0_isCell 10 = .ok (.iconst 1, 1) := by decide +kernel
theorem dX0_isCell_11 : decode cX0_isCell 11 = .ok (.goto 4, 3) := by decide +kernel
theorem dX0_isCell_14 : decode cX0_isCell 14 = .ok (.iconst 0, 1) := by decide +kernel
theorem dX0_isCell_15 : decode cX0_isCell 15 = .ok (.ireturn, 1) := by decide +kernel
theorem dX0_isKind_0 : decode cX0_isKind 0 = .ok (.iload_n 0, 1) := by decide +kernel
theorem dX0_isKind_1 : decode cX0_isKind 1 = .ok (.ifCond .lt 12, 3) := by decide +kernel
theorem dX0_isKind_4 : decode cX0_isKind 4 = .ok (.iload_n 0, 1) := by decide +kernel
theorem dX0_isKind_5 : decode cX0_isKind 5 = .ok (.iconst 3, 1) := by decide +kernel
theorem dX0_isKind_6 : decode cX0_isKind 6 = .ok (.if_icmp .gt 7, 3) := by decide +kernel
theorem dX0_isKind_9 : decode cX0_isKind 9 = .ok (.iconst 1, 1) := by decide +kernel
theorem dX0_isKind_10 : decode cX0_isKind 10 = .ok (.goto 4, 3) := by decide +kernel
theorem dX0_isKind_13 : decode cX0_isKind 13 = .ok (.iconst 0, 1) := by decide +kernel
theorem dX0_isKind_14 : decode cX0_isKind 14 = .ok (.ireturn, 1) := by decide +kernel
theorem dX0_stopsLight_0 : decode cX0_stopsLight 0 = .ok (.iload_n 0, 1) := by decide +kernel
theorem dX0_stopsLight_1 : decode cX0_stopsLight 1 = .ok (.iconst 1, 1) := by decide +kernel
theorem dX0_stopsLight_2 : decode cX0_stopsLight 2 = .ok (.if_icmp .eq 8, 3) := by decide +kernel
theorem dX0_stopsLight_5 : decode cX0_stopsLight 5 = .ok (.iload_n 0, 1) := by decide +kernel
theorem dX0_stopsLight_6 : decode cX0_stopsLight 6 = .ok (.iconst 3, 1) := by decide +kernel
theorem dX0_stopsLight_7 : decode cX0_stopsLight 7 = .ok (.if_icmp .ne 7, 3) := by decide +kernel
theorem dX0_stopsLight_10 : decode cX0_stopsLight 10 = .ok (.iconst 1, 1) := by decide +kernel
theorem dX0_stopsLight_11 : decode cX0_stopsLight 11 = .ok (.goto 4, 3) := by decide +kernel
theorem dX0_stopsLight_14 : decode cX0_stopsLight 14 = .ok (.iconst 0, 1) := by decide +kernel
theorem dX0_stopsLight_15 : decode cX0_stopsLight 15 = .ok (.ireturn, 1) := by decide +kernel
theorem dX0_stopsFeet_0 : decode cX0_stopsFeet 0 = .ok (.iload_n 0, 1) := by decide +kernel
theorem dX0_stopsFeet_1 : decode cX0_stopsFeet 1 = .ok (.iconst 1, 1) := by decide +kernel
theorem dX0_stopsFeet_2 : decode cX0_stopsFeet 2 = .ok (.if_icmp .eq 8, 3) := by decide +kernel
theorem dX0_stopsFeet_5 : decode cX0_stopsFeet 5 = .ok (.iload_n 0, 1) := by decide +kernel
theorem dX0_stopsFeet_6 : decode cX0_stopsFeet 6 = .ok (.iconst 2, 1) := by decide +kernel
theorem dX0_stopsFeet_7 : decode cX0_stopsFeet 7 = .ok (.if_icmp .ne 7, 3) := by decide +kernel
theorem dX0_stopsFeet_10 : decode cX0_stopsFeet 10 = .ok (.iconst 1, 1) := by decide +kernel
theorem dX0_stopsFeet_11 : decode cX0_stopsFeet 11 = .ok (.goto 4, 3) := by decide +kernel
theorem dX0_stopsFeet_14 : decode cX0_stopsFeet 14 = .ok (.iconst 0, 1) := by decide +kernel
theorem dX0_stopsFeet_15 : decode cX0_stopsFeet 15 = .ok (.ireturn, 1) := by decide +kernel
theorem dX0_row_0 : decode cX0_row 0 = .ok (.iload_n 0, 1) := by decide +kernel
theorem dX0_row_1 : decode cX0_row 1 = .ok (.bipush 8, 2) := by decide +kernel
theorem dX0_row_3 : decode cX0_row 3 = .ok (.idiv, 1) := by decide +kernel
theorem dX0_row_4 : decode cX0_row 4 = .ok (.ireturn, 1) := by decide +kernel
theorem dX0_column_0 : decode cX0_column 0 = .ok (.iload_n 0, 1) := by decide +kernel
theorem dX0_column_1 : decode cX0_column 1 = .ok (.bipush 8, 2) := by decide +kernel
theorem dX0_column_3 : decode cX0_column 3 = .ok (.irem, 1) := by decide +kernel
theorem dX0_column_4 : decode cX0_column 4 = .ok (.ireturn, 1) := by decide +kernel
set_option maxRecDepth 20000 in
theorem ggX0_rowsBetween_X0_row : GoodIn wsX0_rowsBetween wsX0_row := goodIn_r _ [8] (by decide +kernel) (by decide +kernel)
set_option maxRecDepth 20000 in
theorem gX0_rowsBetween_X0_row : GoodIn wsX0_rowsBetween (va_wsS RX0 9 yX0_row wsX0_row) := goodIn_app (goodIn_of _ (by decide +kernel)) ggX0_rowsBetween_X0_row
theorem dX0_rowsBetween_0 : decode cX0_rowsBetween 0 = .ok (.iload_n 1, 1) := by decide +kernel
theorem dX0_rowsBetween_1 : decode cX0_rowsBetween 1 = .ok (.invokestatic 9, 3) := by decide +kernel
theorem dX0_rowsBetween_4 : decode cX0_rowsBetween 4 = .ok (.iload_n 0, 1) := by decide +kernel
theorem dX0_rowsBetween_5 : decode cX0_rowsBetween 5 = .ok (.invokestatic 9, 3) := by decide +kernel
theorem dX0_rowsBetween_8 : decode cX0_rowsBetween 8 = .ok (.isub, 1) := by decide +kernel
theorem dX0_rowsBetween_9 : decode cX0_rowsBetween 9 = .ok (.invokestatic 15, 3) := by decide +kernel
theorem dX0_rowsBetween_12 : decode cX0_rowsBetween 12 = .ok (.ireturn, 1) := by decide +kernel
set_option maxRecDepth 20000 in
theorem ggX0_columnsBetween_X0_column : GoodIn wsX0_columnsBetween wsX0_column := goodIn_r _ [8] (by decide +kernel) (by decide +kernel)
set_option maxRecDepth 20000 in
theorem gX0_columnsBetween_X0_column : GoodIn wsX0_columnsBetween (va_wsS RX0 20 yX0_column wsX0_column) := goodIn_app (goodIn_of _ (by decide +kernel)) ggX0_columnsBetween_X0_column
theorem dX0_columnsBetween_0 : decode cX0_columnsBetween 0 = .ok (.iload_n 1, 1) := by decide +kernel
theorem dX0_columnsBetween_1 : decode cX0_columnsBetween 1 = .ok (.invokestatic 20, 3) := by decide +kernel
theorem dX0_columnsBetween_4 : decode cX0_columnsBetween 4 = .ok (.iload_n 0, 1) := by decide +kernel
theorem dX0_columnsBetween_5 : decode cX0_columnsBetween 5 = .ok (.invokestatic 20, 3) := by decide +kernel
theorem dX0_columnsBetween_8 : decode cX0_columnsBetween 8 = .ok (.isub, 1) := by decide +kernel
theorem dX0_columnsBetween_9 : decode cX0_columnsBetween 9 = .ok (.invokestatic 15, 3) := by decide +kernel
theorem dX0_columnsBetween_12 : decode cX0_columnsBetween 12 = .ok (.ireturn, 1) := by decide +kernel
set_option maxRecDepth 20000 in
theorem ggX0_neighbour_X0_row : GoodIn wsX0_neighbour wsX0_row := goodIn_r _ [4] (by decide +kernel) (by decide +kernel)
set_option maxRecDepth 20000 in
theorem gX0_neighbour_X0_row : GoodIn wsX0_neighbour (va_wsS RX0 9 yX0_row wsX0_row) := goodIn_app (goodIn_of _ (by decide +kernel)) ggX0_neighbour_X0_row
set_option maxRecDepth 20000 in
theorem ggX0_neighbour_X0_column : GoodIn wsX0_neighbour wsX0_column := goodIn_r _ [7] (by decide +kernel) (by decide +kernel)
set_option maxRecDepth 20000 in
theorem gX0_neighbour_X0_column : GoodIn wsX0_neighbour (va_wsS RX0 20 yX0_column wsX0_column) := goodIn_app (goodIn_of _ (by decide +kernel)) ggX0_neighbour_X0_column
theorem dX0_neighbour_0 : decode cX0_neighbour 0 = .ok (.iload_n 1, 1) := by decide +kernel
theorem dX0_neighbour_1 : decode cX0_neighbour 1 = .ok (.tableswitch 97 0 3 #[31, 47, 64, 82], 31) := by decide +kernel
theorem dX0_neighbour_32 : decode cX0_neighbour 32 = .ok (.iload_n 0, 1) := by decide +kernel
theorem dX0_neighbour_33 : decode cX0_neighbour 33 = .ok (.invokestatic 9, 3) := by decide +kernel
theorem dX0_neighbour_36 : decode cX0_neighbour 36 = .ok (.ifCond .le 10, 3) := by decide +kernel
theorem dX0_neighbour_39 : decode cX0_neighbour 39 = .ok (.iload_n 0, 1) := by decide +kernel
theorem dX0_neighbour_40 : decode cX0_neighbour 40 = .ok (.bipush 8, 2) := by decide +kernel
theorem dX0_neighbour_42 : decode cX0_neighbour 42 = .ok (.isub, 1) := by decide +kernel
theorem dX0_neighbour_43 : decode cX0_neighbour 43 = .ok (.goto 4, 3) := by decide +kernel
theorem dX0_neighbour_46 : decode cX0_neighbour 46 = .ok (.iconst (-1), 1) := by decide +kernel
theorem dX0_neighbour_47 : decode cX0_neighbour 47 = .ok (.ireturn, 1) := by decide +kernel
theorem dX0_neighbour_48 : decode cX0_neighbour 48 = .ok (.iload_n 0, 1) := by decide +kernel
theorem dX0_neighbour_49 : decode cX0_neighbour 49 = .ok (.invokestatic 20, 3) := by decide +kernel
theorem dX0_neighbour_52 : decode cX0_neighbour 52 = .ok (.bipush 7, 2) := by decide +kernel
theorem dX0_neighbour_54 : decode cX0_neighbour 54 = .ok (.if_icmp .ge 9, 3) := by decide +kernel
theorem dX0_neighbour_57 : decode cX0_neighbour 57 = .ok (.iload_n 0, 1) := by decide +kernel
theorem dX0_neighbour_58 : decode cX0_neighbour 58 = .ok (.iconst 1, 1) := by decide +kernel
theorem dX0_neighbour_59 : decode cX0_neighbour 59 = .ok (.iadd, 1) := by decide +kernel
theorem dX0_neighbour_60 : decode cX0_neighbour 60 = .ok (.goto 4, 3) := by decide +kernel
theorem dX0_neighbour_63 : decode cX0_neighbour 63 = .ok (.iconst (-1), 1) := by decide +kernel
theorem dX0_neighbour_64 : decode cX0_neighbour 64 = .ok (.ireturn, 1) := by decide +kernel
theorem dX0_neighbour_65 : decode cX0_neighbour 65 = .ok (.iload_n 0, 1) := by decide +kernel
theorem dX0_neighbour_66 : decode cX0_neighbour 66 = .ok (.invokestatic 9, 3) := by decide +kernel
theorem dX0_neighbour_69 : decode cX0_neighbour 69 = .ok (.bipush 7, 2) := by decide +kernel
theorem dX0_neighbour_71 : decode cX0_neighbour 71 = .ok (.if_icmp .ge 10, 3) := by decide +kernel
theorem dX0_neighbour_74 : decode cX0_neighbour 74 = .ok (.iload_n 0, 1) := by decide +kernel
theorem dX0_neighbour_75 : decode cX0_neighbour 75 = .ok (.bipush 8, 2) := by decide +kernel
theorem dX0_neighbour_77 : decode cX0_neighbour 77 = .ok (.iadd, 1) := by decide +kernel
theorem dX0_neighbour_78 : decode cX0_neighbour 78 = .ok (.goto 4, 3) := by decide +kernel
theorem dX0_neighbour_81 : decode cX0_neighbour 81 = .ok (.iconst (-1), 1) := by decide +kernel
theorem dX0_neighbour_82 : decode cX0_neighbour 82 = .ok (.ireturn, 1) := by decide +kernel
theorem dX0_neighbour_83 : decode cX0_neighbour 83 = .ok (.iload_n 0, 1) := by decide +kernel
theorem dX0_neighbour_84 : decode cX0_neighbour 84 = .ok (.invokestatic 20, 3) := by decide +kernel
theorem dX0_neighbour_87 : decode cX0_neighbour 87 = .ok (.ifCond .le 9, 3) := by decide +kernel
theorem dX0_neighbour_90 : decode cX0_neighbour 90 = .ok (.iload_n 0, 1) := by decide +kernel
theorem dX0_neighbour_91 : decode cX0_neighbour 91 = .ok (.iconst 1, 1) := by decide +kernel
theorem dX0_neighbour_92 : decode cX0_neighbour 92 = .ok (.isub, 1) := by decide +kernel
theorem dX0_neighbour_93 : decode cX0_neighbour 93 = .ok (.goto 4, 3) := by decide +kernel
theorem dX0_neighbour_96 : decode cX0_neighbour 96 = .ok (.iconst (-1), 1) := by decide +kernel
theorem dX0_neighbour_97 : decode cX0_neighbour 97 = .ok (.ireturn, 1) := by decide +kernel
theorem dX0_neighbour_98 : decode cX0_neighbour 98 = .ok (.iconst (-1), 1) := by decide +kernel
theorem dX0_neighbour_99 : decode cX0_neighbour 99 = .ok (.ireturn, 1) := by decide +kernel
set_option maxRecDepth 20000 in
theorem ggX1_init_X5_init : GoodIn wsX1_init wsX5_init := goodIn_r _ [9, 10, 2, 3, 11, 12, 13, 14, 15, 16, 17, 20, 21, 22, 23, 24, 25, 26, 27, 28, 29] (by decide +kernel) (by decide +kernel)
set_option maxRecDepth 20000 in
theorem gX1_init_X5_init_n17 : GoodIn wsX1_init (wsX5_init) := ggX1_init_X5_init
theorem dX1_init_0 : decode cX1_init 0 = .ok (.aload_n 0, 1) := by decide +kernel
theorem dX1_init_1 : decode cX1_init 1 = .ok (.invokespecial 3, 3) := by decide +kernel
theorem dX1_init_4 : decode cX1_init 4 = .ok (.aload_n 0, 1) := by decide +kernel
theorem dX1_init_5 : decode cX1_init 5 = .ok (.iconst 4, 1) := by decide +kernel
theorem dX1_init_6 : decode cX1_init 6 = .ok (.anewarray 9, 3) := by decide +kernel
theorem dX1_init_9 : decode cX1_init 9 = .ok (.putfield 11, 3) := by decide +kernel
theorem dX1_init_12 : decode cX1_init 12 = .ok (.iconst 0, 1) := by decide +kernel
theorem dX1_init_13 : decode cX1_init 13 = .ok (.istore_n 1, 1) := by decide +kernel
theorem dX1_init_14 : decode cX1_init 14 = .ok (.iload_n 1, 1) := by decide +kernel
theorem dX1_init_15 : decode cX1_init 15 = .ok (.iconst 4, 1) := by decide +kernel
theorem dX1_init_16 : decode cX1_init 16 = .ok (.if_icmp .ge 22, 3) := by decide +kernel
theorem dX1_init_19 : decode cX1_init 19 = .ok (.aload_n 0, 1) := by decide +kernel
theorem dX1_init_20 : decode cX1_init 20 = .ok (.getfield 11, 3) := by decide +kernel
theorem dX1_init_23 : decode cX1_init 23 = .ok (.iload_n 1, 1) := by decide +kernel
theorem dX1_init_24 : decode cX1_init 24 = .ok (.new 9, 3) := by decide +kernel
theorem dX1_init_27 : decode cX1_init 27 = .ok (.dup, 1) := by decide +kernel
theorem dX1_init_28 : decode cX1_init 28 = .ok (.invokespecial 17, 3) := by decide +kernel
theorem dX1_init_31 : decode cX1_init 31 = .ok (.aastore, 1) := by decide +kernel
theorem dX1_init_32 : decode cX1_init 32 = .ok (.iinc 1 1, 3) := by decide +kernel
theorem dX1_init_35 : decode cX1_init 35 = .ok (.goto (-21), 3) := by decide +kernel
theorem dX1_init_38 : decode cX1_init 38 = .ok (.return_, 1) := by decide +kernel
set_option maxRecDepth 20000 in
theorem ggX1_record_X1_dropOldest : GoodIn wsX1_record wsX1_dropOldest := goodIn_r _ [7, 2, 1, 27, 28] (by decide +kernel) (by decide +kernel)
set_option maxRecDepth 20000 in
theorem gX1_record_X1_dropOldest : GoodIn wsX1_record (wsV RX1 22 RX1 yX1_dropOldest wsX1_dropOldest) := goodIn_app (goodIn_of _ (by decide +kernel)) ggX1_record_X1_dropOldest
set_option maxRecDepth 20000 in
theorem ggX1_record_X5_copyFrom : GoodIn wsX1_record wsX5_copyFrom := goodIn_r _ [12, 13, 14, 15, 16, 17, 18, 19, 20, 21, 22, 23, 24, 25, 26, 29, 30, 31, 32, 33, 34, 35, 36, 37, 38] (by decide +kernel) (by decide +kernel)
set_option maxRecDepth 20000 in
theorem gX1_record_X5_copyFrom : GoodIn wsX1_record (wsV RX1 25 RX5 yX5_copyFrom wsX5_copyFrom) := goodIn_app (goodIn_of _ (by decide +kernel)) ggX1_record_X5_copyFrom
theorem dX1_record_0 : decode cX1_record 0 = .ok (.aload_n 0, 1) := by decide +kernel
theorem dX1_record_1 : decode cX1_record 1 = .ok (.getfield 18, 3) := by decide +kernel
theorem dX1_record_4 : decode cX1_record 4 = .ok (.iconst 4, 1) := by decide +kernel
theorem dX1_record_5 : decode cX1_record 5 = .ok (.if_icmp .lt 7, 3) := by decide +kernel
theorem dX1_record_8 : decode cX1_record 8 = .ok (.aload_n 0, 1) := by decide +kernel
theorem dX1_record_9 : decode cX1_record 9 = .ok (.invokevirtual 22, 3) := by decide +kernel
theorem dX1_record_12 : decode cX1_record 12 = .ok (.aload_n 0, 1) := by decide +kernel
theorem dX1_record_13 : decode cX1_record 13 = .ok (.getfield 11, 3) := by decide +kernel
theorem dX1_record_16 : decode cX1_record 16 = .ok (.aload_n 0, 1) := by decide +kernel
theorem dX1_record_17 : decode cX1_record 17 = .ok (.getfield 18, 3) := by decide +kernel
theorem dX1_record_20 : decode cX1_record 20 = .ok (.aaload, 1) := by decide +kernel
theorem dX1_record_21 : decode cX1_record 21 = .ok (.aload_n 1, 1) := by decide +kernel
theorem dX1_record_22 : decode cX1_record 22 = .ok (.invokevirtual 25, 3) := by decide +kernel
theorem dX1_record_25 : decode cX1_record 25 = .ok (.aload_n 0, 1) := by decide +kernel
theorem dX1_record_26 : decode cX1_record 26 = .ok (.dup, 1) := by decide +kernel
theorem dX1_record_27 : decode cX1_record 27 = .ok (.getfield 18, 3) := by decide +kernel
theorem dX1_record_30 : decode cX1_record 30 = .ok (.iconst 1, 1) := by decide +kernel
theorem dX1_record_31 : decode cX1_record 31 = .ok (.iadd, 1) := by decide +kernel
theorem dX1_record_32 : decode cX1_record 32 = .ok (.putfield 18, 3) := by decide +kernel
theorem dX1_record_35 : decode cX1_record 35 = .ok (.return_, 1) := by decide +kernel
theorem dX1_dropOldest_0 : decode cX1_dropOldest 0 = .ok (.aload_n 0, 1) := by decide +kernel
theorem dX1_dropOldest_1 : decode cX1_dropOldest 1 = .ok (.getfield 11, 3) := by decide +kernel
theorem dX1_dropOldest_4 : decode cX1_dropOldest 4 = .ok (.iconst 0, 1) := by decide +kernel
theorem dX1_dropOldest_5 : decode cX1_dropOldest 5 = .ok (.aaload, 1) := by decide +kernel
theorem dX1_dropOldest_6 : decode cX1_dropOldest 6 = .ok (.astore_n 1, 1) := by decide +kernel
theorem dX1_dropOldest_7 : decode cX1_dropOldest 7 = .ok (.iconst 1, 1) := by decide +kernel
theorem dX1_dropOldest_8 : decode cX1_dropOldest 8 = .ok (.istore_n 2, 1) := by decide +kernel
theorem dX1_dropOldest_9 : decode cX1_dropOldest 9 = .ok (.iload_n 2, 1) := by decide +kernel
theorem dX1_dropOldest_10 : decode cX1_dropOldest 10 = .ok (.iconst 4, 1) := by decide +kernel
theorem dX1_dropOldest_11 : decode cX1_dropOldest 11 = .ok (.if_icmp .ge 23, 3) := by decide +kernel
theorem dX1_dropOldest_14 : decode cX1_dropOldest 14 = .ok (.aload_n 0, 1) := by decide +kernel
theorem dX1_dropOldest_15 : decode cX1_dropOldest 15 = .ok (.getfield 11, 3) := by decide +kernel
theorem dX1_dropOldest_18 : decode cX1_dropOldest 18 = .ok (.iload_n 2, 1) := by decide +kernel
theorem dX1_dropOldest_19 : decode cX1_dropOldest 19 = .ok (.iconst 1, 1) := by decide +kernel
theorem dX1_dropOldest_20 : decode cX1_dropOldest 20 = .ok (.isub, 1) := by decide +kernel
theorem dX1_dropOldest_21 : decode cX1_dropOldest 21 = .ok (.aload_n 0, 1) := by decide +kernel
theorem dX1_dropOldest_22 : decode cX1_dropOldest 22 = .ok (.getfield 11, 3) := by decide +kernel
theorem dX1_dropOldest_25 : decode cX1_dropOldest 25 = .ok (.iload_n 2, 1) := by decide +kernel
theorem dX1_dropOldest_26 : decode cX1_dropOldest 26 = .ok (.aaload, 1) := by decide +kernel
theorem dX1_dropOldest_27 : decode cX1_dropOldest 27 = .ok (.aastore, 1) := by decide +kernel
theorem dX1_dropOldest_28 : decode cX1_dropOldest 28 = .ok (.iinc 2 1, 3) := by decide +kernel
theorem dX1_dropOldest_31 : decode cX1_dropOldest 31 = .ok (.goto (-22), 3) := by decide +kernel
theorem dX1_dropOldest_34 : decode cX1_dropOldest 34 = .ok (.aload_n 0, 1) := by decide +kernel
theorem dX1_dropOldest_35 : decode cX1_dropOldest 35 = .ok (.getfield 11, 3) := by decide +kernel
theorem dX1_dropOldest_38 : decode cX1_dropOldest 38 = .ok (.iconst 3, 1) := by decide +kernel
theorem dX1_dropOldest_39 : decode cX1_dropOldest 39 = .ok (.aload_n 1, 1) := by decide +kernel
theorem dX1_dropOldest_40 : decode cX1_dropOldest 40 = .ok (.aastore, 1) := by decide +kernel
theorem dX1_dropOldest_41 : decode cX1_dropOldest 41 = .ok (.aload_n 0, 1) := by decide +kernel
theorem dX1_dropOldest_42 : decode cX1_dropOldest 42 = .ok (.iconst 3, 1) := by decide +kernel
theorem dX1_dropOldest_43 : decode cX1_dropOldest 43 = .ok (.putfield 18, 3) := by decide +kernel
theorem dX1_dropOldest_46 : decode cX1_dropOldest 46 = .ok (.return_, 1) := by decide +kernel
set_option maxRecDepth 20000 in
theorem ggX1_takeBack_X5_copyFrom : GoodIn wsX1_takeBack wsX5_copyFrom := goodIn_r _ [7, 8, 9, 10, 11, 12, 13, 14, 15, 16, 17, 18, 19, 20, 21, 24, 25, 26, 27, 28, 29, 30, 31, 32, 33] (by decide +kernel) (by decide +kernel)
set_option maxRecDepth 20000 in
theorem gX1_takeBack_X5_copyFrom : GoodIn wsX1_takeBack (wsV RX1 25 RX5 yX5_copyFrom wsX5_copyFrom) := goodIn_app (goodIn_of _ (by decide +kernel)) ggX1_takeBack_X5_copyFrom
theorem dX1_takeBack_0 : decode cX1_takeBack 0 = .ok (.aload_n 0, 1) := by decide +kernel
theorem dX1_takeBack_1 : decode cX1_takeBack 1 = .ok (.getfield 18, 3) := by decide +kernel
theorem dX1_takeBack_4 : decode cX1_takeBack 4 = .ok (.ifCond .le 26, 3) := by decide +kernel
theorem dX1_takeBack_7 : decode cX1_takeBack 7 = .ok (.aload_n 0, 1) := by decide +kernel
theorem dX1_takeBack_8 : decode cX1_takeBack 8 = .ok (.dup, 1) := by decide +kernel
theorem dX1_takeBack_9 : decode cX1_takeBack 9 = .ok (.getfield 18, 3) := by decide +kernel
theorem dX1_takeBack_12 : decode cX1_takeBack 12 = .ok (.iconst 1, 1) := by decide +kernel
theorem dX1_takeBack_13 : decode cX1_takeBack 13 = .ok (.isub, 1) := by decide +kernel
theorem dX1_takeBack_14 : decode cX1_takeBack 14 = .ok (.putfield 18, 3) := by decide +kernel
theorem dX1_takeBack_17 : decode cX1_takeBack 17 = .ok (.aload_n 1, 1) := by decide +kernel
theorem dX1_takeBack_18 : decode cX1_takeBack 18 = .ok (.aload_n 0, 1) := by decide +kernel
theorem dX1_takeBack_19 : decode cX1_takeBack 19 = .ok (.getfield 11, 3) := by decide +kernel
theorem dX1_takeBack_22 : decode cX1_takeBack 22 = .ok (.aload_n 0, 1) := by decide +kernel
theorem dX1_takeBack_23 : decode cX1_takeBack 23 = .ok (.getfield 18, 3) := by decide +kernel
theorem dX1_takeBack_26 : decode cX1_takeBack 26 = .ok (.aaload, 1) := by decide +kernel
theorem dX1_takeBack_27 : decode cX1_takeBack 27 = .ok (.invokevirtual 25, 3) := by decide +kernel
theorem dX1_takeBack_30 : decode cX1_takeBack 30 = .ok (.return_, 1) := by decide +kernel
set_option maxRecDepth 20000 in
theorem ggX2_init_X3_init : GoodIn wsX2_init wsX3_init := goodIn_r _ [11, 12, 2, 3] (by decide +kernel) (by decide +kernel)
set_option maxRecDepth 20000 in
theorem gX2_init_X3_init_n11 : GoodIn wsX2_init (wsX3_init) := ggX2_init_X3_init
theorem dX2_init_0 : decode cX2_init 0 = .ok (.aload_n 0, 1) := by decide +kernel
theorem dX2_init_1 : decode cX2_init 1 = .ok (.invokespecial 3, 3) := by decide +kernel
theorem dX2_init_4 : decode cX2_init 4 = .ok (.aload_n 0, 1) := by decide +kernel
theorem dX2_init_5 : decode cX2_init 5 = .ok (.new 9, 3) := by decide +kernel
theorem dX2_init_8 : decode cX2_init 8 = .ok (.dup, 1) := by decide +kernel
theorem dX2_init_9 : decode cX2_init 9 = .ok (.invokespecial 11, 3) := by decide +kernel
theorem dX2_init_12 : decode cX2_init 12 = .ok (.putfield 12, 3) := by decide +kernel
theorem dX2_init_15 : decode cX2_init 15 = .ok (.aload_n 0, 1) := by decide +kernel
theorem dX2_init_16 : decode cX2_init 16 = .ok (.bipush 64, 2) := by decide +kernel
theorem dX2_init_18 : decode cX2_init 18 = .ok (.newarray .int, 2) := by decide +kernel
theorem dX2_init_20 : decode cX2_init 20 = .ok (.putfield 18, 3) := by decide +kernel
theorem dX2_init_23 : decode cX2_init 23 = .ok (.return_, 1) := by decide +kernel
set_option maxRecDepth 20000 in
theorem ggX2_strengthAt_X0_row : GoodIn wsX2_strengthAt wsX0_row := goodIn_r _ [4] (by decide +kernel) (by decide +kernel)
set_option maxRecDepth 20000 in
theorem gX2_strengthAt_X0_row : GoodIn wsX2_strengthAt (va_wsS RX2 22 yX0_row wsX0_row) := goodIn_app (goodIn_of _ (by decide +kernel)) ggX2_strengthAt_X0_row
set_option maxRecDepth 20000 in
theorem ggX2_strengthAt_X0_column : GoodIn wsX2_strengthAt wsX0_column := goodIn_r _ [7] (by decide +kernel) (by decide +kernel)
set_option maxRecDepth 20000 in
theorem gX2_strengthAt_X0_column : GoodIn wsX2_strengthAt (va_wsS RX2 28 yX0_column wsX0_column) := goodIn_app (goodIn_of _ (by decide +kernel)) ggX2_strengthAt_X0_column
theorem dX2_strengthAt_0 : decode cX2_strengthAt 0 = .ok (.iload_n 2, 1) := by decide +kernel
theorem dX2_strengthAt_1 : decode cX2_strengthAt 1 = .ok (.invokestatic 22, 3) := by decide +kernel
theorem dX2_strengthAt_4 : decode cX2_strengthAt 4 = .ok (.iload_n 1, 1) := by decide +kernel
theorem dX2_strengthAt_5 : decode cX2_strengthAt 5 = .ok (.invokestatic 22, 3) := by decide +kernel
theorem dX2_strengthAt_8 : decode cX2_strengthAt 8 = .ok (.isub, 1) := by decide +kernel
theorem dX2_strengthAt_9 : decode cX2_strengthAt 9 = .ok (.istore_n 3, 1) := by decide +kernel
theorem dX2_strengthAt_10 : decode cX2_strengthAt 10 = .ok (.iload_n 2, 1) := by decide +kernel
theorem dX2_strengthAt_11 : decode cX2_strengthAt 11 = .ok (.invokestatic 28, 3) := by decide +kernel
theorem dX2_strengthAt_14 : decode cX2_strengthAt 14 = .ok (.iload_n 1, 1) := by decide +kernel
theorem dX2_strengthAt_15 : decode cX2_strengthAt 15 = .ok (.invokestatic 28, 3) := by decide +kernel
theorem dX2_strengthAt_18 : decode cX2_strengthAt 18 = .ok (.isub, 1) := by decide +kernel
theorem dX2_strengthAt_19 : decode cX2_strengthAt 19 = .ok (.istore 4, 2) := by decide +kernel
theorem dX2_strengthAt_21 : decode cX2_strengthAt 21 = .ok (.bipush 8, 2) := by decide +kernel
theorem dX2_strengthAt_23 : decode cX2_strengthAt 23 = .ok (.iload_n 0, 1) := by decide +kernel
theorem dX2_strengthAt_24 : decode cX2_strengthAt 24 = .ok (.imul, 1) := by decide +kernel
theorem dX2_strengthAt_25 : decode cX2_strengthAt 25 = .ok (.iconst 2, 1) := by decide +kernel
theorem dX2_strengthAt_26 : decode cX2_strengthAt 26 = .ok (.iload_n 3, 1) := by decide +kernel
theorem dX2_strengthAt_27 : decode cX2_strengthAt 27 = .ok (.iload_n 3, 1) := by decide +kernel
theorem dX2_strengthAt_28 : decode cX2_strengthAt 28 = .ok (.imul, 1) := by decide +kernel
theorem dX2_strengthAt_29 : decode cX2_strengthAt 29 = .ok (.iadd, 1) := by decide +kernel
theorem dX2_strengthAt_30 : decode cX2_strengthAt 30 = .ok (.iload 4, 2) := by decide +kernel
theorem dX2_strengthAt_32 : decode cX2_strengthAt 32 = .ok (.iload 4, 2) := by decide +kernel
theorem dX2_strengthAt_34 : decode cX2_strengthAt 34 = .ok (.imul, 1) := by decide +kernel
theorem dX2_strengthAt_35 : decode cX2_strengthAt 35 = .ok (.iadd, 1) := by decide +kernel
theorem dX2_strengthAt_36 : decode cX2_strengthAt 36 = .ok (.idiv, 1) := by decide +kernel
theorem dX2_strengthAt_37 : decode cX2_strengthAt 37 = .ok (.ireturn, 1) := by decide +kernel
set_option maxRecDepth 20000 in
theorem ggX2_gift_X2_strengthAt : GoodIn wsX2_gift wsX2_strengthAt := goodIn_r _ [9, 10, 11, 12, 13, 14, 15, 16] (by decide +kernel) (by decide +kernel)
set_option maxRecDepth 20000 in
theorem gX2_gift_X2_strengthAt : GoodIn wsX2_gift (va_wsS RX2 42 yX2_strengthAt wsX2_strengthAt) := goodIn_app (goodIn_of _ (by decide +kernel)) ggX2_gift_X2_strengthAt
set_option maxRecDepth 20000 in
theorem ggX2_gift_X3_isFreeAlong : GoodIn wsX2_gift wsX3_isFreeAlong := goodIn_r _ [21, 22, 23, 24, 25, 26, 27, 28, 29, 20, 30, 31, 32, 33, 34, 35, 36, 37, 38, 39, 52, 53, 54, 55, 56, 57, 58] (by decide +kernel) (by decide +kernel)
set_option maxRecDepth 20000 in
theorem gX2_gift_X3_isFreeAlong : GoodIn wsX2_gift (wsV RX2 49 RX3 yX3_isFreeAlong wsX3_isFreeAlong) := goodIn_app (goodIn_of _ (by decide +kernel)) ggX2_gift_X3_isFreeAlong
theorem dX2_gift_0 : decode cX2_gift 0 = .ok (.aload_n 1, 1) := by decide +kernel
theorem dX2_gift_1 : decode cX2_gift 1 = .ok (.getfield 31, 3) := by decide +kernel
theorem dX2_gift_4 : decode cX2_gift 4 = .ok (.iload_n 2, 1) := by decide +kernel
theorem dX2_gift_5 : decode cX2_gift 5 = .ok (.iaload, 1) := by decide +kernel
theorem dX2_gift_6 : decode cX2_gift 6 = .ok (.iload 4, 2) := by decide +kernel
theorem dX2_gift_8 : decode cX2_gift 8 = .ok (.if_icmp .gt 5, 3) := by decide +kernel
theorem dX2_gift_11 : decode cX2_gift 11 = .ok (.iconst 0, 1) := by decide +kernel
theorem dX2_gift_12 : decode cX2_gift 12 = .ok (.ireturn, 1) := by decide +kernel
theorem dX2_gift_13 : decode cX2_gift 13 = .ok (.aload_n 1, 1) := by decide +kernel
theorem dX2_gift_14 : decode cX2_gift 14 = .ok (.getfield 36, 3) := by decide +kernel
theorem dX2_gift_17 : decode cX2_gift 17 = .ok (.iload_n 2, 1) := by decide +kernel
theorem dX2_gift_18 : decode cX2_gift 18 = .ok (.iaload, 1) := by decide +kernel
theorem dX2_gift_19 : decode cX2_gift 19 = .ok (.istore 5, 2) := by decide +kernel
theorem dX2_gift_21 : decode cX2_gift 21 = .ok (.aload_n 1, 1) := by decide +kernel
theorem dX2_gift_22 : decode cX2_gift 22 = .ok (.getfield 39, 3) := by decide +kernel
theorem dX2_gift_25 : decode cX2_gift 25 = .ok (.iload_n 2, 1) := by decide +kernel
theorem dX2_gift_26 : decode cX2_gift 26 = .ok (.iaload, 1) := by decide +kernel
theorem dX2_gift_27 : decode cX2_gift 27 = .ok (.iload 5, 2) := by decide +kernel
theorem dX2_gift_29 : decode cX2_gift 29 = .ok (.iload_n 3, 1) := by decide +kernel
theorem dX2_gift_30 : decode cX2_gift 30 = .ok (.invokestatic 42, 3) := by decide +kernel
theorem dX2_gift_33 : decode cX2_gift 33 = .ok (.istore 6, 2) := by decide +kernel
theorem dX2_gift_35 : decode cX2_gift 35 = .ok (.iload 6, 2) := by decide +kernel
theorem dX2_gift_37 : decode cX2_gift 37 = .ok (.ifCond .le 25, 3) := by decide +kernel
theorem dX2_gift_40 : decode cX2_gift 40 = .ok (.aload_n 0, 1) := by decide +kernel
theorem dX2_gift_41 : decode cX2_gift 41 = .ok (.getfield 12, 3) := by decide +kernel
theorem dX2_gift_44 : decode cX2_gift 44 = .ok (.aload_n 1, 1) := by decide +kernel
theorem dX2_gift_45 : decode cX2_gift 45 = .ok (.getfield 46, 3) := by decide +kernel
theorem dX2_gift_48 : decode cX2_gift 48 = .ok (.iload 5, 2) := by decide +kernel
theorem dX2_gift_50 : decode cX2_gift 50 = .ok (.iload_n 3, 1) := by decide +kernel
theorem dX2_gift_51 : decode cX2_gift 51 = .ok (.invokevirtual 49, 3) := by decide +kernel
theorem dX2_gift_54 : decode cX2_gift 54 = .ok (.ifCond .eq 8, 3) := by decide +kernel
theorem dX2_gift_57 : decode cX2_gift 57 = .ok (.iload 6, 2) := by decide +kernel
theorem dX2_gift_59 : decode cX2_gift 59 = .ok (.goto 4, 3) := by decide +kernel
theorem dX2_gift_62 : decode cX2_gift 62 = .ok (.iconst 0, 1) := by decide +kernel
theorem dX2_gift_63 : decode cX2_gift 63 = .ok (.ireturn, 1) := by decide +kernel
set_option maxRecDepth 20000 in
theorem ggX2_at_X2_gift : GoodIn wsX2_at wsX2_gift := goodIn_r _ [6, 7, 8, 9, 10, 11, 12, 13, 5, 14, 15, 16, 17, 18, 19, 20, 21, 22, 23, 24, 25, 26, 27, 28, 29, 30, 31, 32, 33, 34, 35, 36, 37, 38, 39, 40, 41, 42, 43, 44, 45, 46, 47, 48, 49, 50, 51, 52, 53, 54, 55, 56, 57, 58, 59, 60, 61, 62, 63] (by decide +kernel) (by decide +kernel)
set_option maxRecDepth 20000 in
theorem gX2_at_X2_gift : GoodIn wsX2_at (wsV RX2 57 RX2 yX2_gift wsX2_gift) := goodIn_app (goodIn_of _ (by decide +kernel)) ggX2_at_X2_gift
theorem dX2_at_0 : decode cX2_at 0 = .ok (.iconst 0, 1) := by decide +kernel
theorem dX2_at_1 : decode cX2_at 1 = .ok (.istore_n 3, 1) := by decide +kernel
theorem dX2_at_2 : decode cX2_at 2 = .ok (.iconst 0, 1) := by decide +kernel
theorem dX2_at_3 : decode cX2_at 3 = .ok (.istore 4, 2) := by decide +kernel
theorem dX2_at_5 : decode cX2_at 5 = .ok (.iload 4, 2) := by decide +kernel
theorem dX2_at_7 : decode cX2_at 7 = .ok (.aload_n 1, 1) := by decide +kernel
theorem dX2_at_8 : decode cX2_at 8 = .ok (.getfield 53, 3) := by decide +kernel
theorem dX2_at_11 : decode cX2_at 11 = .ok (.if_icmp .ge 21, 3) := by decide +kernel
theorem dX2_at_14 : decode cX2_at 14 = .ok (.iload_n 3, 1) := by decide +kernel
theorem dX2_at_15 : decode cX2_at 15 = .ok (.aload_n 0, 1) := by decide +kernel
theorem dX2_at_16 : decode cX2_at 16 = .ok (.aload_n 1, 1) := by decide +kernel
theorem dX2_at_17 : decode cX2_at 17 = .ok (.iload 4, 2) := by decide +kernel
theorem dX2_at_19 : decode cX2_at 19 = .ok (.iload_n 2, 1) := by decide +kernel
theorem dX2_at_20 : decode cX2_at 20 = .ok (.iconst 0, 1) := by decide +kernel
theorem dX2_at_21 : decode cX2_at 21 = .ok (.invokevirtual 57, 3) := by decide +kernel
theorem dX2_at_24 : decode cX2_at 24 = .ok (.iadd, 1) := by decide +kernel
theorem dX2_at_25 : decode cX2_at 25 = .ok (.istore_n 3, 1) := by decide +kernel
theorem dX2_at_26 : decode cX2_at 26 = .ok (.iinc 4 1, 3) := by decide +kernel
theorem dX2_at_29 : decode cX2_at 29 = .ok (.goto (-24), 3) := by decide +kernel
theorem dX2_at_32 : decode cX2_at 32 = .ok (.iload_n 3, 1) := by decide +kernel
theorem dX2_at_33 : decode cX2_at 33 = .ok (.ireturn, 1) := by decide +kernel
set_option maxRecDepth 20000 in
theorem ggX2_shine_X2_gift : GoodIn wsX2_shine wsX2_gift := goodIn_r _ [7, 8, 9, 10, 11, 12, 13, 14, 6, 15, 16, 17, 18, 19, 20, 21, 22, 23, 24, 25, 26, 27, 28, 29, 30, 31, 32, 33, 34, 35, 36, 37, 38, 39, 40, 41, 42, 43, 44, 45, 48, 49, 50, 51, 52, 53, 54, 55, 56, 57, 46, 47, 58, 59, 60, 61, 62, 63, 64] (by decide +kernel) (by decide +kernel)
set_option maxRecDepth 20000 in
theorem gX2_shine_X2_gift : GoodIn wsX2_shine (wsV RX2 57 RX2 yX2_gift wsX2_gift) := goodIn_app (goodIn_of _ (by decide +kernel)) ggX2_shine_X2_gift
theorem dX2_shine_0 : decode cX2_shine 0 = .ok (.iconst 0, 1) := by decide +kernel
theorem dX2_shine_1 : decode cX2_shine 1 = .ok (.istore_n 3, 1) := by decide +kernel
theorem dX2_shine_2 : decode cX2_shine 2 = .ok (.iload_n 3, 1) := by decide +kernel
theorem dX2_shine_3 : decode cX2_shine 3 = .ok (.bipush 64, 2) := by decide +kernel
theorem dX2_shine_5 : decode cX2_shine 5 = .ok (.if_icmp .ge 52, 3) := by decide +kernel
theorem dX2_shine_8 : decode cX2_shine 8 = .ok (.aload_n 0, 1) := by decide +kernel
theorem dX2_shine_9 : decode cX2_shine 9 = .ok (.getfield 18, 3) := by decide +kernel
theorem dX2_shine_12 : decode cX2_shine 12 = .ok (.iload_n 3, 1) := by decide +kernel
theorem dX2_shine_13 : decode cX2_shine 13 = .ok (.iconst 0, 1) := by decide +kernel
theorem dX2_shine_14 : decode cX2_shine 14 = .ok (.iastore, 1) := by decide +kernel
theorem dX2_shine_15 : decode cX2_shine 15 = .ok (.iconst 0, 1) := by decide +kernel
theorem dX2_shine_16 : decode cX2_shine 16 = .ok (.istore 4, 2) := by decide +kernel
theorem dX2_shine_18 : decode cX2_shine 18 = .ok (.iload 4, 2) := by decide +kernel
theorem dX2_shine_20 : decode cX2_shine 20 = .ok (.aload_n 1, 1) := by decide +kernel
theorem dX2_shine_21 : decode cX2_shine 21 = .ok (.getfield 53, 3) := by decide +kernel
theorem dX2_shine_24 : decode cX2_shine 24 = .ok (.if_icmp .ge 27, 3) := by decide +kernel
theorem dX2_shine_27 : decode cX2_shine 27 = .ok (.aload_n 0, 1) := by decide +kernel
theorem dX2_shine_28 : decode cX2_shine 28 = .ok (.getfield 18, 3) := by decide +kernel
theorem dX2_shine_31 : decode cX2_shine 31 = .ok (.iload_n 3, 1) := by decide +kernel
theorem dX2_shine_32 : decode cX2_shine 32 = .ok (.dup2, 1) := by decide +kernel
theorem dX2_shine_33 : decode cX2_shine 33 = .ok (.iaload, 1) := by decide +kernel
theorem dX2_shine_34 : decode cX2_shine 34 = .ok (.aload_n 0, 1) := by decide +kernel
theorem dX2_shine_35 : decode cX2_shine 35 = .ok (.aload_n 1, 1) := by decide +kernel
theorem dX2_shine_36 : decode cX2_shine 36 = .ok (.iload 4, 2) := by decide +kernel
theorem dX2_shine_38 : decode cX2_shine 38 = .ok (.iload_n 3, 1) := by decide +kernel
theorem dX2_shine_39 : decode cX2_shine 39 = .ok (.iload_n 2, 1) := by decide +kernel
theorem dX2_shine_40 : decode cX2_shine 40 = .ok (.invokevirtual 57, 3) := by decide +kernel
theorem dX2_shine_43 : decode cX2_shine 43 = .ok (.iadd, 1) := by decide +kernel
theorem dX2_shine_44 : decode cX2_shine 44 = .ok (.iastore, 1) := by decide +kernel
theorem dX2_shine_45 : decode cX2_shine 45 = .ok (.iinc 4 1, 3) := by decide +kernel
theorem dX2_shine_48 : decode cX2_shine 48 = .ok (.goto (-30), 3) := by decide +kernel
theorem dX2_shine_51 : decode cX2_shine 51 = .ok (.iinc 3 1, 3) := by decide +kernel
theorem dX2_shine_54 : decode cX2_shine 54 = .ok (.goto (-52), 3) := by decide +kernel
theorem dX2_shine_57 : decode cX2_shine 57 = .ok (.return_, 1) := by decide +kernel
set_option maxRecDepth 20000 in
theorem ggX2_litCells_X2_shine : GoodIn wsX2_litCells wsX2_shine := goodIn_r _ [7, 1, 8, 9, 10, 11, 6, 12, 13, 14, 15, 16, 17, 18, 19, 20, 21, 22, 23, 24, 25, 26, 27, 28, 29, 30, 31, 32, 33, 34, 35, 36, 37, 38, 39, 40, 41, 42, 43, 44, 45, 46, 47, 48, 49, 50, 51, 52, 53, 54, 55, 56, 57, 58, 59, 60, 61, 62, 63, 64, 65, 66, 67, 68, 69] (by decide +kernel) (by decide +kernel)
set_option maxRecDepth 20000 in
theorem gX2_litCells_X2_shine : GoodIn wsX2_litCells (wsV RX2 61 RX2 yX2_shine wsX2_shine) := goodIn_app (goodIn_of _ (by decide +kernel)) ggX2_litCells_X2_shine
theorem dX2_litCells_0 : decode cX2_litCells 0 = .ok (.aload_n 0, 1) := by decide +kernel
theorem dX2_litCells_1 : decode cX2_litCells 1 = .ok (.aload_n 1, 1) := by decide +kernel
theorem dX2_litCells_2 : decode cX2_litCells 2 = .ok (.iload_n 2, 1) := by decide +kernel
theorem dX2_litCells_3 : decode cX2_litCells 3 = .ok (.invokevirtual 61, 3) := by decide +kernel
theorem dX2_litCells_6 : decode cX2_litCells 6 = .ok (.iconst 0, 1) := by decide +kernel
theorem dX2_litCells_7 : decode cX2_litCells 7 = .ok (.istore_n 3, 1) := by decide +kernel
theorem dX2_litCells_8 : decode cX2_litCells 8 = .ok (.iconst 0, 1) := by decide +kernel
theorem dX2_litCells_9 : decode cX2_litCells 9 = .ok (.istore 4, 2) := by decide +kernel
theorem dX2_litCells_11 : decode cX2_litCells 11 = .ok (.iload 4, 2) := by decide +kernel
theorem dX2_litCells_13 : decode cX2_litCells 13 = .ok (.bipush 64, 2) := by decide +kernel
theorem dX2_litCells_15 : decode cX2_litCells 15 = .ok (.if_icmp .ge 26, 3) := by decide +kernel
theorem dX2_litCells_18 : decode cX2_litCells 18 = .ok (.aload_n 0, 1) := by decide +kernel
theorem dX2_litCells_19 : decode cX2_litCells 19 = .ok (.getfield 18, 3) := by decide +kernel
theorem dX2_litCells_22 : decode cX2_litCells 22 = .ok (.iload 4, 2) := by decide +kernel
theorem dX2_litCells_24 : decode cX2_litCells 24 = .ok (.iaload, 1) := by decide +kernel
theorem dX2_litCells_25 : decode cX2_litCells 25 = .ok (.aload_n 1, 1) := by decide +kernel
theorem dX2_litCells_26 : decode cX2_litCells 26 = .ok (.getfield 65, 3) := by decide +kernel
theorem dX2_litCells_29 : decode cX2_litCells 29 = .ok (.if_icmp .lt 6, 3) := by decide +kernel
theorem dX2_litCells_32 : decode cX2_litCells 32 = .ok (.iinc 3 1, 3) := by decide +kernel
theorem dX2_litCells_35 : decode cX2_litCells 35 = .ok (.iinc 4 1, 3) := by decide +kernel
theorem dX2_litCells_38 : decode cX2_litCells 38 = .ok (.goto (-27), 3) := by decide +kernel
theorem dX2_litCells_41 : decode cX2_litCells 41 = .ok (.iload_n 3, 1) := by decide +kernel
theorem dX2_litCells_42 : decode cX2_litCells 42 = .ok (.ireturn, 1) := by decide +kernel
set_option maxRecDepth 20000 in
theorem ggX2_seenCells_X2_shine : GoodIn wsX2_seenCells wsX2_shine := goodIn_r _ [10, 1, 11, 12, 13, 14, 9, 15, 16, 17, 18, 3, 4, 19, 20, 21, 22, 23, 24, 25, 26, 27, 28, 29, 30, 31, 32, 33, 34, 35, 36, 37, 38, 39, 40, 41, 42, 43, 44, 45, 46, 47, 48, 49, 50, 51, 68, 69, 70, 71, 72, 73, 74, 75, 76, 77, 78, 79, 80, 81, 82, 83, 84, 85, 86] (by decide +kernel) (by decide +kernel)
set_option maxRecDepth 20000 in
theorem gX2_seenCells_X2_shine : GoodIn wsX2_seenCells (wsV RX2 61 RX2 yX2_shine wsX2_shine) := goodIn_app (goodIn_of _ (by decide +kernel)) ggX2_seenCells_X2_shine
set_option maxRecDepth 20000 in
theorem ggX2_seenCells_X2_isNear : GoodIn wsX2_seenCells wsX2_isNear := goodIn_r _ [54, 5, 55, 56, 57, 24, 58, 59, 60, 61, 62, 63, 23, 25, 64, 65, 66, 67, 27, 28, 70, 71, 72, 73, 74, 75, 76, 77, 78, 79] (by decide +kernel) (by decide +kernel)
set_option maxRecDepth 20000 in
theorem gX2_seenCells_X2_isNear : GoodIn wsX2_seenCells (va_wsS RX2 68 yX2_isNear wsX2_isNear) := goodIn_app (goodIn_of _ (by decide +kernel)) ggX2_seenCells_X2_isNear
set_option maxRecDepth 20000 in
theorem ggX2_seenCells_X3_isFreeAlong : GoodIn wsX2_seenCells wsX3_isFreeAlong := goodIn_r _ [33, 34, 35, 36, 37, 38, 39, 40, 41, 32, 42, 43, 44, 45, 46, 47, 48, 49, 50, 51, 80, 81, 82, 83, 84, 85, 86] (by decide +kernel) (by decide +kernel)
set_option maxRecDepth 20000 in
theorem gX2_seenCells_X3_isFreeAlong : GoodIn wsX2_seenCells (wsV RX2 49 RX3 yX3_isFreeAlong wsX3_isFreeAlong) := goodIn_app (goodIn_of _ (by decide +kernel)) ggX2_seenCells_X3_isFreeAlong
theorem dX2_seenCells_0 : decode cX2_seenCells 0 = .ok (.aload_n 0, 1) := by decide +kernel
theorem dX2_seenCells_1 : decode cX2_seenCells 1 = .ok (.aload_n 1, 1) := by decide +kernel
theorem dX2_seenCells_2 : decode cX2_seenCells 2 = .ok (.iconst 0, 1) := by decide +kernel
theorem dX2_seenCells_3 : decode cX2_seenCells 3 = .ok (.invokevirtual 61, 3) := by decide +kernel
theorem dX2_seenCells_6 : decode cX2_seenCells 6 = .ok (.lconst 0, 1) := by decide +kernel
theorem dX2_seenCells_7 : decode cX2_seenCells 7 = .ok (.lstore_n 2, 1) := by decide +kernel
theorem dX2_seenCells_8 : decode cX2_seenCells 8 = .ok (.iconst 0, 1) := by decide +kernel
theorem dX2_seenCells_9 : decode cX2_seenCells 9 = .ok (.istore 4, 2) := by decide +kernel
theorem dX2_seenCells_11 : decode cX2_seenCells 11 = .ok (.iload 4, 2) := by decide +kernel
theorem dX2_seenCells_13 : decode cX2_seenCells 13 = .ok (.bipush 64, 2) := by decide +kernel
theorem dX2_seenCells_15 : decode cX2_seenCells 15 = .ok (.if_icmp .ge 59, 3) := by decide +kernel
theorem dX2_seenCells_18 : decode cX2_seenCells 18 = .ok (.aload_n 0, 1) := by decide +kernel
theorem dX2_seenCells_19 : decode cX2_seenCells 19 = .ok (.getfield 18, 3) := by decide +kernel
theorem dX2_seenCells_22 : decode cX2_seenCells 22 = .ok (.iload 4, 2) := by decide +kernel
theorem dX2_seenCells_24 : decode cX2_seenCells 24 = .ok (.iaload, 1) := by decide +kernel
theorem dX2_seenCells_25 : decode cX2_seenCells 25 = .ok (.aload_n 1, 1) := by decide +kernel
theorem dX2_seenCells_26 : decode cX2_seenCells 26 = .ok (.getfield 65, 3) := by decide +kernel
theorem dX2_seenCells_29 : decode cX2_seenCells 29 = .ok (.if_icmp .ge 12, 3) := by decide +kernel
theorem dX2_seenCells_32 : decode cX2_seenCells 32 = .ok (.aload_n 1, 1) := by decide +kernel
theorem dX2_seenCells_33 : decode cX2_seenCells 33 = .ok (.iload 4, 2) := by decide +kernel
theorem dX2_seenCells_35 : decode cX2_seenCells 35 = .ok (.invokestatic 68, 3) := by decide +kernel
theorem dX2_seenCells_38 : decode cX2_seenCells 38 = .ok (.ifCond .eq 30, 3) := by decide +kernel
theorem dX2_seenCells_41 : decode cX2_seenCells 41 = .ok (.aload_n 0, 1) := by decide +kernel
theorem dX2_seenCells_42 : decode cX2_seenCells 42 = .ok (.getfield 12, 3) := by decide +kernel
theorem dX2_seenCells_45 : decode cX2_seenCells 45 = .ok (.aload_n 1, 1) := by decide +kernel
theorem dX2_seenCells_46 : decode cX2_seenCells 46 = .ok (.getfield 46, 3) := by decide +kernel
theorem dX2_seenCells_49 : decode cX2_seenCells 49 = .ok (.aload_n 1, 1) := by decide +kernel
theorem dX2_seenCells_50 : decode cX2_seenCells 50 = .ok (.getfield 72, 3) := by decide +kernel
theorem dX2_seenCells_53 : decode cX2_seenCells 53 = .ok (.iload 4, 2) := by decide +kernel
theorem dX2_seenCells_55 : decode cX2_seenCells 55 = .ok (.invokevirtual 49, 3) := by decide +kernel
theorem dX2_seenCells_58 : decode cX2_seenCells 58 = .ok (.ifCond .eq 10, 3) := by decide +kernel
theorem dX2_seenCells_61 : decode cX2_seenCells 61 = .ok (.lload_n 2, 1) := by decide +kernel
theorem dX2_seenCells_62 : decode cX2_seenCells 62 = .ok (.lconst 1, 1) := by decide +kernel
theorem dX2_seenCells_63 : decode cX2_seenCells 63 = .ok (.iload 4, 2) := by decide +kernel
theorem dX2_seenCells_65 : decode cX2_seenCells 65 = .ok (.lshl, 1) := by decide +kernel
theorem dX2_seenCells_66 : decode cX2_seenCells 66 = .ok (.lor, 1) := by decide +kernel
theorem dX2_seenCells_67 : decode cX2_seenCells 67 = .ok (.lstore_n 2, 1) := by decide +kernel
theorem dX2_seenCells_68 : decode cX2_seenCells 68 = .ok (.iinc 4 1, 3) := by decide +kernel
theorem dX2_seenCells_71 : decode cX2_seenCells 71 = .ok (.goto (-60), 3) := by decide +kernel
theorem dX2_seenCells_74 : decode cX2_seenCells 74 = .ok (.lload_n 2, 1) := by decide +kernel
theorem dX2_seenCells_75 : decode cX2_seenCells 75 = .ok (.lreturn, 1) := by decide +kernel
set_option maxRecDepth 20000 in
theorem ggX2_isNear_X0_rowsBetween : GoodIn wsX2_isNear wsX0_rowsBetween := goodIn_r _ [6, 7, 8, 9, 10, 11, 12, 5, 13] (by decide +kernel) (by decide +kernel)
set_option maxRecDepth 20000 in
theorem gX2_isNear_X0_rowsBetween : GoodIn wsX2_isNear (va_wsS RX2 75 yX0_rowsBetween wsX0_rowsBetween) := goodIn_app (goodIn_of _ (by decide +kernel)) ggX2_isNear_X0_rowsBetween
set_option maxRecDepth 20000 in
theorem ggX2_isNear_X0_columnsBetween : GoodIn wsX2_isNear wsX0_columnsBetween := goodIn_r _ [16, 7, 8, 9, 10, 17, 18, 5, 19] (by decide +kernel) (by decide +kernel)
set_option maxRecDepth 20000 in
theorem gX2_isNear_X0_columnsBetween : GoodIn wsX2_isNear (va_wsS RX2 82 yX0_columnsBetween wsX0_columnsBetween) := goodIn_app (goodIn_of _ (by decide +kernel)) ggX2_isNear_X0_columnsBetween
theorem dX2_isNear_0 : decode cX2_isNear 0 = .ok (.aload_n 0, 1) := by decide +kernel
theorem dX2_isNear_1 : decode cX2_isNear 1 = .ok (.getfield 72, 3) := by decide +kernel
theorem dX2_isNear_4 : decode cX2_isNear 4 = .ok (.iload_n 1, 1) := by decide +kernel
theorem dX2_isNear_5 : decode cX2_isNear 5 = .ok (.invokestatic 75, 3) := by decide +kernel
theorem dX2_isNear_8 : decode cX2_isNear 8 = .ok (.aload_n 0, 1) := by decide +kernel
theorem dX2_isNear_9 : decode cX2_isNear 9 = .ok (.getfield 79, 3) := by decide +kernel
theorem dX2_isNear_12 : decode cX2_isNear 12 = .ok (.if_icmp .gt 22, 3) := by decide +kernel
theorem dX2_isNear_15 : decode cX2_isNear 15 = .ok (.aload_n 0, 1) := by decide +kernel
theorem dX2_isNear_16 : decode cX2_isNear 16 = .ok (.getfield 72, 3) := by decide +kernel
theorem dX2_isNear_19 : decode cX2_isNear 19 = .ok (.iload_n 1, 1) := by decide +kernel
theorem dX2_isNear_20 : decode cX2_isNear 20 = .ok (.invokestatic 82, 3) := by decide +kernel
theorem dX2_isNear_23 : decode cX2_isNear 23 = .ok (.aload_n 0, 1) := by decide +kernel
theorem dX2_isNear_24 : decode cX2_isNear 24 = .ok (.getfield 79, 3) := by decide +kernel
theorem dX2_isNear_27 : decode cX2_isNear 27 = .ok (.if_icmp .gt 7, 3) := by decide +kernel
theorem dX2_isNear_30 : decode cX2_isNear 30 = .ok (.iconst 1, 1) := by decide +kernel
theorem dX2_isNear_31 : decode cX2_isNear 31 = .ok (.goto 4, 3) := by decide +kernel
theorem dX2_isNear_34 : decode cX2_isNear 34 = .ok (.iconst 0, 1) := by decide +kernel
theorem dX2_isNear_35 : decode cX2_isNear 35 = .ok (.ireturn, 1) := by decide +kernel
set_option maxRecDepth 20000 in
theorem ggX2_givers_X2_gift : GoodIn wsX2_givers wsX2_gift := goodIn_r _ [6, 7, 8, 9, 10, 11, 12, 13, 5, 14, 15, 16, 17, 18, 19, 20, 21, 22, 23, 24, 25, 26, 27, 28, 29, 30, 31, 32, 33, 34, 35, 36, 37, 38, 39, 40, 41, 42, 43, 44, 45, 46, 47, 48, 49, 50, 51, 52, 53, 54, 55, 56, 57, 58, 59, 60, 61, 62, 63] (by decide +kernel) (by decide +kernel)
set_option maxRecDepth 20000 in
theorem gX2_givers_X2_gift : GoodIn wsX2_givers (wsV RX2 57 RX2 yX2_gift wsX2_gift) := goodIn_app (goodIn_of _ (by decide +kernel)) ggX2_givers_X2_gift
theorem dX2_givers_0 : decode cX2_givers 0 = .ok (.iconst 0, 1) := by decide +kernel
theorem dX2_givers_1 : decode cX2_givers 1 = .ok (.istore_n 3, 1) := by decide +kernel
theorem dX2_givers_2 : decode cX2_givers 2 = .ok (.iconst 0, 1) := by decide +kernel
theorem dX2_givers_3 : decode cX2_givers 3 = .ok (.istore 4, 2) := by decide +kernel
theorem dX2_givers_5 : decode cX2_givers 5 = .ok (.iload 4, 2) := by decide +kernel
theorem dX2_givers_7 : decode cX2_givers 7 = .ok (.aload_n 1, 1) := by decide +kernel
theorem dX2_givers_8 : decode cX2_givers 8 = .ok (.getfield 53, 3) := by decide +kernel
theorem dX2_givers_11 : decode cX2_givers 11 = .ok (.if_icmp .ge 28, 3) := by decide +kernel
theorem dX2_givers_14 : decode cX2_givers 14 = .ok (.aload_n 0, 1) := by decide +kernel
theorem dX2_givers_15 : decode cX2_givers 15 = .ok (.aload_n 1, 1) := by decide +kernel
theorem dX2_givers_16 : decode cX2_givers 16 = .ok (.iload 4, 2) := by decide +kernel
theorem dX2_givers_18 : decode cX2_givers 18 = .ok (.iload_n 2, 1) := by decide +kernel
theorem dX2_givers_19 : decode cX2_givers 19 = .ok (.iconst 0, 1) := by decide +kernel
theorem dX2_givers_20 : decode cX2_givers 20 = .ok (.invokevirtual 57, 3) := by decide +kernel
theorem dX2_givers_23 : decode cX2_givers 23 = .ok (.ifCond .le 10, 3) := by decide +kernel
theorem dX2_givers_26 : decode cX2_givers 26 = .ok (.iload_n 3, 1) := by decide +kernel
theorem dX2_givers_27 : decode cX2_givers 27 = .ok (.iconst 1, 1) := by decide +kernel
theorem dX2_givers_28 : decode cX2_givers 28 = .ok (.iload 4, 2) := by decide +kernel
theorem dX2_givers_30 : decode cX2_givers 30 = .ok (.ishl, 1) := by decide +kernel
theorem dX2_givers_31 : decode cX2_givers 31 = .ok (.ior, 1) := by decide +kernel
theorem dX2_givers_32 : decode cX2_givers 32 = .ok (.istore_n 3, 1) := by decide +kernel
theorem dX2_givers_33 : decode cX2_givers 33 = .ok (.iinc 4 1, 3) := by decide +kernel
theorem dX2_givers_36 : decode cX2_givers 36 = .ok (.goto (-31), 3) := by decide +kernel
theorem dX2_givers_39 : decode cX2_givers 39 = .ok (.iload_n 3, 1) := by decide +kernel
theorem dX2_givers_40 : decode cX2_givers 40 = .ok (.ireturn, 1) := by decide +kernel
set_option maxRecDepth 20000 in
theorem ggX2_reachOfLamp_X2_gift : GoodIn wsX2_reachOfLamp wsX2_gift := goodIn_r _ [5, 6, 7, 8, 9, 10, 11, 12, 4, 13, 14, 15, 16, 17, 18, 19, 20, 21, 22, 23, 24, 25, 26, 27, 28, 29, 30, 31, 32, 33, 34, 35, 36, 37, 38, 39, 40, 41, 42, 43, 44, 45, 46, 47, 48, 49, 50, 51, 52, 53, 54, 55, 56, 57, 58, 59, 60, 61, 62] (by decide +kernel) (by decide +kernel)
set_option maxRecDepth 20000 in
theorem gX2_reachOfLamp_X2_gift : GoodIn wsX2_reachOfLamp (wsV RX2 57 RX2 yX2_gift wsX2_gift) := goodIn_app (goodIn_of _ (by decide +kernel)) ggX2_reachOfLamp_X2_gift
theorem dX2_reachOfLamp_0 : decode cX2_reachOfLamp 0 = .ok (.iconst 0, 1) := by decide +kernel
theorem dX2_reachOfLamp_1 : decode cX2_reachOfLamp 1 = .ok (.istore_n 3, 1) := by decide +kernel
theorem dX2_reachOfLamp_2 : decode cX2_reachOfLamp 2 = .ok (.iconst 0, 1) := by decide +kernel
theorem dX2_reachOfLamp_3 : decode cX2_reachOfLamp 3 = .ok (.istore 4, 2) := by decide +kernel
theorem dX2_reachOfLamp_5 : decode cX2_reachOfLamp 5 = .ok (.iload 4, 2) := by decide +kernel
theorem dX2_reachOfLamp_7 : decode cX2_reachOfLamp 7 = .ok (.bipush 64, 2) := by decide +kernel
theorem dX2_reachOfLamp_9 : decode cX2_reachOfLamp 9 = .ok (.if_icmp .ge 24, 3) := by decide +kernel
theorem dX2_reachOfLamp_12 : decode cX2_reachOfLamp 12 = .ok (.aload_n 0, 1) := by decide +kernel
theorem dX2_reachOfLamp_13 : decode cX2_reachOfLamp 13 = .ok (.aload_n 1, 1) := by decide +kernel
theorem dX2_reachOfLamp_14 : decode cX2_reachOfLamp 14 = .ok (.iload_n 2, 1) := by decide +kernel
theorem dX2_reachOfLamp_15 : decode cX2_reachOfLamp 15 = .ok (.iload 4, 2) := by decide +kernel
theorem dX2_reachOfLamp_17 : decode cX2_reachOfLamp 17 = .ok (.iconst 0, 1) := by decide +kernel
theorem dX2_reachOfLamp_18 : decode cX2_reachOfLamp 18 = .ok (.invokevirtual 57, 3) := by decide +kernel
theorem dX2_reachOfLamp_21 : decode cX2_reachOfLamp 21 = .ok (.ifCond .le 6, 3) := by decide +kernel
theorem dX2_reachOfLamp_24 : decode cX2_reachOfLamp 24 = .ok (.iinc 3 1, 3) := by decide +kernel
theorem dX2_reachOfLamp_27 : decode cX2_reachOfLamp 27 = .ok (.iinc 4 1, 3) := by decide +kernel
theorem dX2_reachOfLamp_30 : decode cX2_reachOfLamp 30 = .ok (.goto (-25), 3) := by decide +kernel
theorem dX2_reachOfLamp_33 : decode cX2_reachOfLamp 33 = .ok (.iload_n 3, 1) := by decide +kernel
theorem dX2_reachOfLamp_34 : decode cX2_reachOfLamp 34 = .ok (.ireturn, 1) := by decide +kernel
set_option maxRecDepth 20000 in
theorem ggX2_needOfLamp_X2_shine : GoodIn wsX2_needOfLamp wsX2_shine := goodIn_r _ [7, 1, 8, 9, 10, 11, 6, 12, 13, 14, 15, 16, 17, 18, 19, 20, 21, 22, 23, 24, 25, 26, 27, 28, 29, 30, 31, 32, 33, 34, 35, 36, 37, 38, 39, 40, 41, 42, 43, 44, 45, 46, 47, 48, 49, 50, 51, 52, 53, 54, 55, 56, 57, 58, 59, 60, 61, 62, 63, 64, 65, 66, 67, 68, 69] (by decide +kernel) (by decide +kernel)
set_option maxRecDepth 20000 in
theorem gX2_needOfLamp_X2_shine : GoodIn wsX2_needOfLamp (wsV RX2 61 RX2 yX2_shine wsX2_shine) := goodIn_app (goodIn_of _ (by decide +kernel)) ggX2_needOfLamp_X2_shine
set_option maxRecDepth 20000 in
theorem ggX2_needOfLamp_X2_gift : GoodIn wsX2_needOfLamp wsX2_gift := goodIn_r _ [12, 13, 14, 15, 16, 17, 18, 19, 6, 20, 21, 22, 23, 24, 25, 26, 27, 28, 29, 30, 31, 32, 33, 34, 35, 36, 37, 38, 39, 40, 41, 42, 43, 44, 45, 46, 47, 48, 49, 50, 53, 54, 55, 56, 57, 58, 59, 60, 61, 62, 51, 52, 63, 64, 65, 66, 67, 68, 69] (by decide +kernel) (by decide +kernel)
set_option maxRecDepth 20000 in
theorem gX2_needOfLamp_X2_gift : GoodIn wsX2_needOfLamp (wsV RX2 57 RX2 yX2_gift wsX2_gift) := goodIn_app (goodIn_of _ (by decide +kernel)) ggX2_needOfLamp_X2_gift
theorem dX2_needOfLamp_0 : decode cX2_needOfLamp 0 = .ok (.aload_n 0, 1) := by decide +kernel
theorem dX2_needOfLamp_1 : decode cX2_needOfLamp 1 = .ok (.aload_n 1, 1) := by decide +kernel
theorem dX2_needOfLamp_2 : decode cX2_needOfLamp 2 = .ok (.iconst 0, 1) := by decide +kernel
theorem dX2_needOfLamp_3 : decode cX2_needOfLamp 3 = .ok (.invokevirtual 61, 3) := by decide +kernel
theorem dX2_needOfLamp_6 : decode cX2_needOfLamp 6 = .ok (.iconst 0, 1) := by decide +kernel
theorem dX2_needOfLamp_7 : decode cX2_needOfLamp 7 = .ok (.istore_n 3, 1) := by decide +kernel
theorem dX2_needOfLamp_8 : decode cX2_needOfLamp 8 = .ok (.iconst 0, 1) := by decide +kernel
theorem dX2_needOfLamp_9 : decode cX2_needOfLamp 9 = .ok (.istore 4, 2) := by decide +kernel
theorem dX2_needOfLamp_11 : decode cX2_needOfLamp 11 = .ok (.iload 4, 2) := by decide +kernel
theorem dX2_needOfLamp_13 : decode cX2_needOfLamp 13 = .ok (.bipush 64, 2) := by decide +kernel
theorem dX2_needOfLamp_15 : decode cX2_needOfLamp 15 = .ok (.if_icmp .ge 50, 3) := by decide +kernel
theorem dX2_needOfLamp_18 : decode cX2_needOfLamp 18 = .ok (.aload_n 0, 1) := by decide +kernel
theorem dX2_needOfLamp_19 : decode cX2_needOfLamp 19 = .ok (.getfield 18, 3) := by decide +kernel
theorem dX2_needOfLamp_22 : decode cX2_needOfLamp 22 = .ok (.iload 4, 2) := by decide +kernel
theorem dX2_needOfLamp_24 : decode cX2_needOfLamp 24 = .ok (.iaload, 1) := by decide +kernel
theorem dX2_needOfLamp_25 : decode cX2_needOfLamp 25 = .ok (.aload_n 1, 1) := by decide +kernel
theorem dX2_needOfLamp_26 : decode cX2_needOfLamp 26 = .ok (.getfield 65, 3) := by decide +kernel
theorem dX2_needOfLamp_29 : decode cX2_needOfLamp 29 = .ok (.if_icmp .lt 30, 3) := by decide +kernel
theorem dX2_needOfLamp_32 : decode cX2_needOfLamp 32 = .ok (.aload_n 0, 1) := by decide +kernel
theorem dX2_needOfLamp_33 : decode cX2_needOfLamp 33 = .ok (.getfield 18, 3) := by decide +kernel
theorem dX2_needOfLamp_36 : decode cX2_needOfLamp 36 = .ok (.iload 4, 2) := by decide +kernel
theorem dX2_needOfLamp_38 : decode cX2_needOfLamp 38 = .ok (.iaload, 1) := by decide +kernel
theorem dX2_needOfLamp_39 : decode cX2_needOfLamp 39 = .ok (.aload_n 0, 1) := by decide +kernel
theorem dX2_needOfLamp_40 : decode cX2_needOfLamp 40 = .ok (.aload_n 1, 1) := by decide +kernel
theorem dX2_needOfLamp_41 : decode cX2_needOfLamp 41 = .ok (.iload_n 2, 1) := by decide +kernel
theorem dX2_needOfLamp_42 : decode cX2_needOfLamp 42 = .ok (.iload 4, 2) := by decide +kernel
theorem dX2_needOfLamp_44 : decode cX2_needOfLamp 44 = .ok (.iconst 0, 1) := by decide +kernel
theorem dX2_needOfLamp_45 : decode cX2_needOfLamp 45 = .ok (.invokevirtual 57, 3) := by decide +kernel
theorem dX2_needOfLamp_48 : decode cX2_needOfLamp 48 = .ok (.isub, 1) := by decide +kernel
theorem dX2_needOfLamp_49 : decode cX2_needOfLamp 49 = .ok (.aload_n 1, 1) := by decide +kernel
theorem dX2_needOfLamp_50 : decode cX2_needOfLamp 50 = .ok (.getfield 65, 3) := by decide +kernel
theorem dX2_needOfLamp_53 : decode cX2_needOfLamp 53 = .ok (.if_icmp .ge 6, 3) := by decide +kernel
theorem dX2_needOfLamp_56 : decode cX2_needOfLamp 56 = .ok (.iinc 3 1, 3) := by decide +kernel
theorem dX2_needOfLamp_59 : decode cX2_needOfLamp 59 = .ok (.iinc 4 1, 3) := by decide +kernel
theorem dX2_needOfLamp_62 : decode cX2_needOfLamp 62 = .ok (.goto (-51), 3) := by decide +kernel
theorem dX2_needOfLamp_65 : decode cX2_needOfLamp 65 = .ok (.iload_n 3, 1) := by decide +kernel
theorem dX2_needOfLamp_66 : decode cX2_needOfLamp 66 = .ok (.ireturn, 1) := by decide +kernel
set_option maxRecDepth 20000 in
theorem ggX2_sum_X2_shine : GoodIn wsX2_sum wsX2_shine := goodIn_r _ [6, 1, 7, 8, 9, 10, 5, 11, 12, 13, 14, 15, 16, 17, 18, 19, 20, 21, 22, 23, 24, 25, 26, 27, 28, 29, 30, 31, 32, 33, 34, 35, 36, 37, 38, 39, 40, 41, 42, 43, 44, 45, 46, 47, 48, 49, 50, 51, 52, 53, 54, 55, 56, 57, 58, 59, 60, 61, 62, 63, 64, 65, 66, 67, 68] (by decide +kernel) (by decide +kernel)
set_option maxRecDepth 20000 in
theorem gX2_sum_X2_shine : GoodIn wsX2_sum (wsV RX2 61 RX2 yX2_shine wsX2_shine) := goodIn_app (goodIn_of _ (by decide +kernel)) ggX2_sum_X2_shine
theorem dX2_sum_0 : decode cX2_sum 0 = .ok (.aload_n 0, 1) := by decide +kernel
theorem dX2_sum_1 : decode cX2_sum 1 = .ok (.aload_n 1, 1) := by decide +kernel
theorem dX2_sum_2 : decode cX2_sum 2 = .ok (.iconst 0, 1) := by decide +kernel
theorem dX2_sum_3 : decode cX2_sum 3 = .ok (.invokevirtual 61, 3) := by decide +kernel
theorem dX2_sum_6 : decode cX2_sum 6 = .ok (.iconst 0, 1) := by decide +kernel
theorem dX2_sum_7 : decode cX2_sum 7 = .ok (.istore_n 2, 1) := by decide +kernel
theorem dX2_sum_8 : decode cX2_sum 8 = .ok (.iconst 0, 1) := by decide +kernel
theorem dX2_sum_9 : decode cX2_sum 9 = .ok (.istore_n 3, 1) := by decide +kernel
theorem dX2_sum_10 : decode cX2_sum 10 = .ok (.iload_n 3, 1) := by decide +kernel
theorem dX2_sum_11 : decode cX2_sum 11 = .ok (.bipush 64, 2) := by decide +kernel
theorem dX2_sum_13 : decode cX2_sum 13 = .ok (.if_icmp .ge 18, 3) := by decide +kernel
theorem dX2_sum_16 : decode cX2_sum 16 = .ok (.iload_n 2, 1) := by decide +kernel
theorem dX2_sum_17 : decode cX2_sum 17 = .ok (.aload_n 0, 1) := by decide +kernel
theorem dX2_sum_18 : decode cX2_sum 18 = .ok (.getfield 18, 3) := by decide +kernel
theorem dX2_sum_21 : decode cX2_sum 21 = .ok (.iload_n 3, 1) := by decide +kernel
theorem dX2_sum_22 : decode cX2_sum 22 = .ok (.iaload, 1) := by decide +kernel
theorem dX2_sum_23 : decode cX2_sum 23 = .ok (.iadd, 1) := by decide +kernel
theorem dX2_sum_24 : decode cX2_sum 24 = .ok (.istore_n 2, 1) := by decide +kernel
theorem dX2_sum_25 : decode cX2_sum 25 = .ok (.iinc 3 1, 3) := by decide +kernel
theorem dX2_sum_28 : decode cX2_sum 28 = .ok (.goto (-18), 3) := by decide +kernel
theorem dX2_sum_31 : decode cX2_sum 31 = .ok (.iload_n 2, 1) := by decide +kernel
theorem dX2_sum_32 : decode cX2_sum 32 = .ok (.ireturn, 1) := by decide +kernel
set_option maxRecDepth 20000 in
theorem ggX2_brightest_X2_shine : GoodIn wsX2_brightest wsX2_shine := goodIn_r _ [6, 1, 7, 8, 9, 10, 5, 11, 12, 13, 14, 15, 16, 17, 18, 19, 20, 21, 22, 23, 24, 25, 26, 27, 28, 29, 30, 31, 32, 33, 34, 35, 36, 37, 38, 39, 40, 41, 42, 43, 44, 45, 46, 47, 48, 49, 50, 51, 52, 53, 54, 55, 56, 57, 58, 59, 60, 61, 62, 63, 64, 65, 66, 67, 68] (by decide +kernel) (by decide +kernel)
set_option maxRecDepth 20000 in
theorem gX2_brightest_X2_shine : GoodIn wsX2_brightest (wsV RX2 61 RX2 yX2_shine wsX2_shine) := goodIn_app (goodIn_of _ (by decide +kernel)) ggX2_brightest_X2_shine
theorem dX2_brightest_0 : decode cX2_brightest 0 = .ok (.aload_n 0, 1) := by decide +kernel
theorem dX2_brightest_1 : decode cX2_brightest 1 = .ok (.aload_n 1, 1) := by decide +kernel
theorem dX2_brightest_2 : decode cX2_brightest 2 = .ok (.iconst 0, 1) := by decide +kernel
theorem dX2_brightest_3 : decode cX2_brightest 3 = .ok (.invokevirtual 61, 3) := by decide +kernel
theorem dX2_brightest_6 : decode cX2_brightest 6 = .ok (.iconst 0, 1) := by decide +kernel
theorem dX2_brightest_7 : decode cX2_brightest 7 = .ok (.istore_n 2, 1) := by decide +kernel
theorem dX2_brightest_8 : decode cX2_brightest 8 = .ok (.iconst 1, 1) := by decide +kernel
theorem dX2_brightest_9 : decode cX2_brightest 9 = .ok (.istore_n 3, 1) := by decide +kernel
theorem dX2_brightest_10 : decode cX2_brightest 10 = .ok (.iload_n 3, 1) := by decide +kernel
theorem dX2_brightest_11 : decode cX2_brightest 11 = .ok (.bipush 64, 2) := by decide +kernel
theorem dX2_brightest_13 : decode cX2_brightest 13 = .ok (.if_icmp .ge 26, 3) := by decide +kernel
theorem dX2_brightest_16 : decode cX2_brightest 16 = .ok (.aload_n 0, 1) := by decide +kernel
theorem dX2_brightest_17 : decode cX2_brightest 17 = .ok (.getfield 18, 3) := by decide +kernel
theorem dX2_brightest_20 : decode cX2_brightest 20 = .ok (.iload_n 3, 1) := by decide +kernel
theorem dX2_brightest_21 : decode cX2_brightest 21 = .ok (.iaload, 1) := by decide +kernel
theorem dX2_brightest_22 : decode cX2_brightest 22 = .ok (.aload_n 0, 1) := by decide +kernel
theorem dX2_brightest_23 : decode cX2_brightest 23 = .ok (.getfield 18, 3) := by decide +kernel
theorem dX2_brightest_26 : decode cX2_brightest 26 = .ok (.iload_n 2, 1) := by decide +kernel
theorem dX2_brightest_27 : decode cX2_brightest 27 = .ok (.iaload, 1) := by decide +kernel
theorem dX2_brightest_28 : decode cX2_brightest 28 = .ok (.if_icmp .le 5, 3) := by decide +kernel
theorem dX2_brightest_31 : decode cX2_brightest 31 = .ok (.iload_n 3, 1) := by decide +kernel
theorem dX2_brightest_32 : decode cX2_brightest 32 = .ok (.istore_n 2, 1) := by decide +kernel
theorem dX2_brightest_33 : decode cX2_brightest 33 = .ok (.iinc 3 1, 3) := by decide +kernel
theorem dX2_brightest_36 : decode cX2_brightest 36 = .ok (.goto (-26), 3) := by decide +kernel
theorem dX2_brightest_39 : decode cX2_brightest 39 = .ok (.iload_n 2, 1) := by decide +kernel
theorem dX2_brightest_40 : decode cX2_brightest 40 = .ok (.ireturn, 1) := by decide +kernel
set_option maxRecDepth 20000 in
theorem ggX2_bestCell_X2_shine : GoodIn wsX2_bestCell wsX2_shine := goodIn_r _ [5, 6, 7, 8, 9, 10, 4, 11, 12, 13, 14, 15, 16, 17, 18, 19, 20, 21, 22, 23, 24, 25, 26, 27, 28, 29, 30, 31, 32, 33, 34, 35, 36, 37, 38, 39, 40, 41, 42, 43, 44, 45, 46, 47, 48, 49, 70, 71, 72, 73, 74, 75, 76, 77, 78, 79, 80, 81, 82, 83, 84, 85, 86, 87, 88] (by decide +kernel) (by decide +kernel)
set_option maxRecDepth 20000 in
theorem gX2_bestCell_X2_shine : GoodIn wsX2_bestCell (wsV RX2 61 RX2 yX2_shine wsX2_shine) := goodIn_app (goodIn_of _ (by decide +kernel)) ggX2_bestCell_X2_shine
set_option maxRecDepth 20000 in
theorem ggX2_bestCell_X5_hasRoomForLamp : GoodIn wsX2_bestCell wsX5_hasRoomForLamp := goodIn_r _ [54, 55, 56, 57, 22, 58, 59, 60, 61, 53, 62, 63, 64, 72, 73, 74, 75, 76, 77, 78, 79, 80, 81] (by decide +kernel) (by decide +kernel)
set_option maxRecDepth 20000 in
theorem gX2_bestCell_X5_hasRoomForLamp : GoodIn wsX2_bestCell (wsV RX2 85 RX5 yX5_hasRoomForLamp wsX5_hasRoomForLamp) := goodIn_app (goodIn_of _ (by decide +kernel)) ggX2_bestCell_X5_hasRoomForLamp
set_option maxRecDepth 20000 in
theorem ggX2_bestCell_X2_litWithLamp : GoodIn wsX2_bestCell wsX2_litWithLamp := goodIn_r _ [68, 69, 6, 15, 16, 17, 18, 4, 19, 20, 21, 22, 23, 24, 25, 26, 27, 28, 29, 30, 31, 32, 33, 34, 35, 36, 37, 38, 39, 40, 41, 42, 43, 44, 45, 46, 47, 48, 49, 72, 73, 74, 75, 76, 77, 78, 79, 80, 81, 70, 71, 82, 83, 84, 85, 86, 87, 88] (by decide +kernel) (by decide +kernel)
set_option maxRecDepth 20000 in
theorem gX2_bestCell_X2_litWithLamp : GoodIn wsX2_bestCell (wsV RX2 89 RX2 yX2_litWithLamp wsX2_litWithLamp) := goodIn_app (goodIn_of _ (by decide +kernel)) ggX2_bestCell_X2_litWithLamp
theorem dX2_bestCell_0 : decode cX2_bestCell 0 = .ok (.aload_n 0, 1) := by decide +kernel
theorem dX2_bestCell_1 : decode cX2_bestCell 1 = .ok (.aload_n 1, 1) := by decide +kernel
theorem dX2_bestCell_2 : decode cX2_bestCell 2 = .ok (.iconst 0, 1) := by decide +kernel
theorem dX2_bestCell_3 : decode cX2_bestCell 3 = .ok (.invokevirtual 61, 3) := by decide +kernel
theorem dX2_bestCell_6 : decode cX2_bestCell 6 = .ok (.bipush (-4), 2) := by decide +kernel
theorem dX2_bestCell_8 : decode cX2_bestCell 8 = .ok (.istore_n 3, 1) := by decide +kernel
theorem dX2_bestCell_9 : decode cX2_bestCell 9 = .ok (.iconst (-1), 1) := by decide +kernel
theorem dX2_bestCell_10 : decode cX2_bestCell 10 = .ok (.istore 4, 2) := by decide +kernel
theorem dX2_bestCell_12 : decode cX2_bestCell 12 = .ok (.iconst 0, 1) := by decide +kernel
theorem dX2_bestCell_13 : decode cX2_bestCell 13 = .ok (.istore 5, 2) := by decide +kernel
theorem dX2_bestCell_15 : decode cX2_bestCell 15 = .ok (.iload 5, 2) := by decide +kernel
theorem dX2_bestCell_17 : decode cX2_bestCell 17 = .ok (.bipush 64, 2) := by decide +kernel
theorem dX2_bestCell_19 : decode cX2_bestCell 19 = .ok (.if_icmp .ge 46, 3) := by decide +kernel
theorem dX2_bestCell_22 : decode cX2_bestCell 22 = .ok (.aload_n 1, 1) := by decide +kernel
theorem dX2_bestCell_23 : decode cX2_bestCell 23 = .ok (.iload 5, 2) := by decide +kernel
theorem dX2_bestCell_25 : decode cX2_bestCell 25 = .ok (.invokevirtual 85, 3) := by decide +kernel
theorem dX2_bestCell_28 : decode cX2_bestCell 28 = .ok (.ifCond .eq 14, 3) := by decide +kernel
theorem dX2_bestCell_31 : decode cX2_bestCell 31 = .ok (.aload_n 0, 1) := by decide +kernel
theorem dX2_bestCell_32 : decode cX2_bestCell 32 = .ok (.aload_n 1, 1) := by decide +kernel
theorem dX2_bestCell_33 : decode cX2_bestCell 33 = .ok (.iload_n 2, 1) := by decide +kernel
theorem dX2_bestCell_34 : decode cX2_bestCell 34 = .ok (.iload 5, 2) := by decide +kernel
theorem dX2_bestCell_36 : decode cX2_bestCell 36 = .ok (.invokevirtual 89, 3) := by decide +kernel
theorem dX2_bestCell_39 : decode cX2_bestCell 39 = .ok (.goto 4, 3) := by decide +kernel
theorem dX2_bestCell_42 : decode cX2_bestCell 42 = .ok (.iconst (-1), 1) := by decide +kernel
theorem dX2_bestCell_43 : decode cX2_bestCell 43 = .ok (.istore 6, 2) := by decide +kernel
theorem dX2_bestCell_45 : decode cX2_bestCell 45 = .ok (.iload 6, 2) := by decide +kernel
theorem dX2_bestCell_47 : decode cX2_bestCell 47 = .ok (.iload 4, 2) := by decide +kernel
theorem dX2_bestCell_49 : decode cX2_bestCell 49 = .ok (.if_icmp .le 10, 3) := by decide +kernel
theorem dX2_bestCell_52 : decode cX2_bestCell 52 = .ok (.iload 6, 2) := by decide +kernel
theorem dX2_bestCell_54 : decode cX2_bestCell 54 = .ok (.istore 4, 2) := by decide +kernel
theorem dX2_bestCell_56 : decode cX2_bestCell 56 = .ok (.iload 5, 2) := by decide +kernel
theorem dX2_bestCell_58 : decode cX2_bestCell 58 = .ok (.istore_n 3, 1) := by decide +kernel
theorem dX2_bestCell_59 : decode cX2_bestCell 59 = .ok (.iinc 5 1, 3) := by decide +kernel
theorem dX2_bestCell_62 : decode cX2_bestCell 62 = .ok (.goto (-47), 3) := by decide +kernel
theorem dX2_bestCell_65 : decode cX2_bestCell 65 = .ok (.iload_n 3, 1) := by decide +kernel
theorem dX2_bestCell_66 : decode cX2_bestCell 66 = .ok (.ireturn, 1) := by decide +kernel
set_option maxRecDepth 20000 in
theorem ggX2_litWithLamp_X2_strengthAt : GoodIn wsX2_litWithLamp wsX2_strengthAt := goodIn_r _ [8, 9, 10, 11, 12, 13, 14, 15] (by decide +kernel) (by decide +kernel)
set_option maxRecDepth 20000 in
theorem gX2_litWithLamp_X2_strengthAt : GoodIn wsX2_litWithLamp (va_wsS RX2 42 yX2_strengthAt wsX2_strengthAt) := goodIn_app (goodIn_of _ (by decide +kernel)) ggX2_litWithLamp_X2_strengthAt
set_option maxRecDepth 20000 in
theorem ggX2_litWithLamp_X3_isFreeAlong : GoodIn wsX2_litWithLamp wsX3_isFreeAlong := goodIn_r _ [20, 21, 22, 23, 24, 25, 26, 27, 28, 19, 29, 30, 31, 32, 33, 34, 35, 36, 37, 38, 51, 52, 53, 54, 55, 56, 57] (by decide +kernel) (by decide +kernel)
set_option maxRecDepth 20000 in
theorem gX2_litWithLamp_X3_isFreeAlong : GoodIn wsX2_litWithLamp (wsV RX2 49 RX3 yX3_isFreeAlong wsX3_isFreeAlong) := goodIn_app (goodIn_of _ (by decide +kernel)) ggX2_litWithLamp_X3_isFreeAlong
theorem dX2_litWithLamp_0 : decode cX2_litWithLamp 0 = .ok (.iconst 0, 1) := by decide +kernel
theorem dX2_litWithLamp_1 : decode cX2_litWithLamp 1 = .ok (.istore 4, 2) := by decide +kernel
theorem dX2_litWithLamp_3 : decode cX2_litWithLamp 3 = .ok (.iconst 0, 1) := by decide +kernel
theorem dX2_litWithLamp_4 : decode cX2_litWithLamp 4 = .ok (.istore 5, 2) := by decide +kernel
theorem dX2_litWithLamp_6 : decode cX2_litWithLamp 6 = .ok (.iload 5, 2) := by decide +kernel
theorem dX2_litWithLamp_8 : decode cX2_litWithLamp 8 = .ok (.bipush 64, 2) := by decide +kernel
theorem dX2_litWithLamp_10 : decode cX2_litWithLamp 10 = .ok (.if_icmp .ge 60, 3) := by decide +kernel
theorem dX2_litWithLamp_13 : decode cX2_litWithLamp 13 = .ok (.aload_n 1, 1) := by decide +kernel
theorem dX2_litWithLamp_14 : decode cX2_litWithLamp 14 = .ok (.getfield 65, 3) := by decide +kernel
theorem dX2_litWithLamp_17 : decode cX2_litWithLamp 17 = .ok (.aload_n 0, 1) := by decide +kernel
theorem dX2_litWithLamp_18 : decode cX2_litWithLamp 18 = .ok (.getfield 18, 3) := by decide +kernel
theorem dX2_litWithLamp_21 : decode cX2_litWithLamp 21 = .ok (.iload 5, 2) := by decide +kernel
theorem dX2_litWithLamp_23 : decode cX2_litWithLamp 23 = .ok (.iaload, 1) := by decide +kernel
theorem dX2_litWithLamp_24 : decode cX2_litWithLamp 24 = .ok (.isub, 1) := by decide +kernel
theorem dX2_litWithLamp_25 : decode cX2_litWithLamp 25 = .ok (.istore 6, 2) := by decide +kernel
theorem dX2_litWithLamp_27 : decode cX2_litWithLamp 27 = .ok (.iload 6, 2) := by decide +kernel
theorem dX2_litWithLamp_29 : decode cX2_litWithLamp 29 = .ok (.ifCond .le 32, 3) := by decide +kernel
theorem dX2_litWithLamp_32 : decode cX2_litWithLamp 32 = .ok (.iload_n 2, 1) := by decide +kernel
theorem dX2_litWithLamp_33 : decode cX2_litWithLamp 33 = .ok (.iload_n 3, 1) := by decide +kernel
theorem dX2_litWithLamp_34 : decode cX2_litWithLamp 34 = .ok (.iload 5, 2) := by decide +kernel
theorem dX2_litWithLamp_36 : decode cX2_litWithLamp 36 = .ok (.invokestatic 42, 3) := by decide +kernel
theorem dX2_litWithLamp_39 : decode cX2_litWithLamp 39 = .ok (.iload 6, 2) := by decide +kernel
theorem dX2_litWithLamp_41 : decode cX2_litWithLamp 41 = .ok (.if_icmp .lt 23, 3) := by decide +kernel
theorem dX2_litWithLamp_44 : decode cX2_litWithLamp 44 = .ok (.aload_n 0, 1) := by decide +kernel
theorem dX2_litWithLamp_45 : decode cX2_litWithLamp 45 = .ok (.getfield 12, 3) := by decide +kernel
theorem dX2_litWithLamp_48 : decode cX2_litWithLamp 48 = .ok (.aload_n 1, 1) := by decide +kernel
theorem dX2_litWithLamp_49 : decode cX2_litWithLamp 49 = .ok (.getfield 46, 3) := by decide +kernel
theorem dX2_litWithLamp_52 : decode cX2_litWithLamp 52 = .ok (.iload_n 3, 1) := by decide +kernel
theorem dX2_litWithLamp_53 : decode cX2_litWithLamp 53 = .ok (.iload 5, 2) := by decide +kernel
theorem dX2_litWithLamp_55 : decode cX2_litWithLamp 55 = .ok (.invokevirtual 49, 3) := by decide +kernel
theorem dX2_litWithLamp_58 : decode cX2_litWithLamp 58 = .ok (.ifCond .eq 6, 3) := by decide +kernel
theorem dX2_litWithLamp_61 : decode cX2_litWithLamp 61 = .ok (.iinc 4 1, 3) := by decide +kernel
theorem dX2_litWithLamp_64 : decode cX2_litWithLamp 64 = .ok (.iinc 5 1, 3) := by decide +kernel
theorem dX2_litWithLamp_67 : decode cX2_litWithLamp 67 = .ok (.goto (-61), 3) := by decide +kernel
theorem dX2_litWithLamp_70 : decode cX2_litWithLamp 70 = .ok (.iload 4, 2) := by decide +kernel
theorem dX2_litWithLamp_72 : decode cX2_litWithLamp 72 = .ok (.ireturn, 1) := by decide +kernel
theorem dX3_init_0 : decode cX3_init 0 = .ok (.aload_n 0, 1) := by decide +kernel
theorem dX3_init_1 : decode cX3_init 1 = .ok (.invokespecial 3, 3) := by decide +kernel
theorem dX3_init_4 : decode cX3_init 4 = .ok (.return_, 1) := by decide +kernel
theorem dX3_start_0 : decode cX3_start 0 = .ok (.iload_n 2, 1) := by decide +kernel
theorem dX3_start_1 : decode cX3_start 1 = .ok (.bipush 8, 2) := by decide +kernel
theorem dX3_start_3 : decode cX3_start 3 = .ok (.idiv, 1) := by decide +kernel
theorem dX3_start_4 : decode cX3_start 4 = .ok (.iload_n 1, 1) := by decide +kernel
theorem dX3_start_5 : decode cX3_start 5 = .ok (.bipush 8, 2) := by decide +kernel
theorem dX3_start_7 : decode cX3_start 7 = .ok (.idiv, 1) := by decide +kernel
theorem dX3_start_8 : decode cX3_start 8 = .ok (.isub, 1) := by decide +kernel
theorem dX3_start_9 : decode cX3_start 9 = .ok (.istore_n 3, 1) := by decide +kernel
theorem dX3_start_10 : decode cX3_start 10 = .ok (.iload_n 2, 1) := by decide +kernel
theorem dX3_start_11 : decode cX3_start 11 = .ok (.bipush 8, 2) := by decide +kernel
theorem dX3_start_13 : decode cX3_start 13 = .ok (.irem, 1) := by decide +kernel
theorem dX3_start_14 : decode cX3_start 14 = .ok (.iload_n 1, 1) := by decide +kernel
theorem dX3_start_15 : decode cX3_start 15 = .ok (.bipush 8, 2) := by decide +kernel
theorem dX3_start_17 : decode cX3_start 17 = .ok (.irem, 1) := by decide +kernel
theorem dX3_start_18 : decode cX3_start 18 = .ok (.isub, 1) := by decide +kernel
theorem dX3_start_19 : decode cX3_start 19 = .ok (.istore 4, 2) := by decide +kernel
theorem dX3_start_21 : decode cX3_start 21 = .ok (.aload_n 0, 1) := by decide +kernel
theorem dX3_start_22 : decode cX3_start 22 = .ok (.iload_n 1, 1) := by decide +kernel
theorem dX3_start_23 : decode cX3_start 23 = .ok (.putfield 9, 3) := by decide +kernel
theorem dX3_start_26 : decode cX3_start 26 = .ok (.aload_n 0, 1) := by decide +kernel
theorem dX3_start_27 : decode cX3_start 27 = .ok (.iload_n 2, 1) := by decide +kernel
theorem dX3_start_28 : decode cX3_start 28 = .ok (.putfield 15, 3) := by decide +kernel
theorem dX3_start_31 : decode cX3_start 31 = .ok (.aload_n 0, 1) := by decide +kernel
theorem dX3_start_32 : decode cX3_start 32 = .ok (.iload_n 3, 1) := by decide +kernel
theorem dX3_start_33 : decode cX3_start 33 = .ok (.ifCond .ge 8, 3) := by decide +kernel
theorem dX3_start_36 : decode cX3_start 36 = .ok (.bipush (-8), 2) := by decide +kernel
theorem dX3_start_38 : decode cX3_start 38 = .ok (.goto 5, 3) := by decide +kernel
theorem dX3_start_41 : decode cX3_start 41 = .ok (.bipush 8, 2) := by decide +kernel
theorem dX3_start_43 : decode cX3_start 43 = .ok (.putfield 18, 3) := by decide +kernel
theorem dX3_start_46 : decode cX3_start 46 = .ok (.aload_n 0, 1) := by decide +kernel
theorem dX3_start_47 : decode cX3_start 47 = .ok (.iload 4, 2) := by decide +kernel
theorem dX3_start_49 : decode cX3_start 49 = .ok (.ifCond .ge 7, 3) := by decide +kernel
theorem dX3_start_52 : decode cX3_start 52 = .ok (.iconst (-1), 1) := by decide +kernel
theorem dX3_start_53 : decode cX3_start 53 = .ok (.goto 4, 3) := by decide +kernel
theorem dX3_start_56 : decode cX3_start 56 = .ok (.iconst 1, 1) := by decide +kernel
theorem dX3_start_57 : decode cX3_start 57 = .ok (.putfield 21, 3) := by decide +kernel
theorem dX3_start_60 : decode cX3_start 60 = .ok (.aload_n 0, 1) := by decide +kernel
theorem dX3_start_61 : decode cX3_start 61 = .ok (.iload_n 3, 1) := by decide +kernel
theorem dX3_start_62 : decode cX3_start 62 = .ok (.ifCond .ge 8, 3) := by decide +kernel
theorem dX3_start_65 : decode cX3_start 65 = .ok (.iload_n 3, 1) := by decide +kernel
theorem dX3_start_66 : decode cX3_start 66 = .ok (.ineg, 1) := by decide +kernel
theorem dX3_start_67 : decode cX3_start 67 = .ok (.goto 4, 3) := by decide +kernel
theorem dX3_start_70 : decode cX3_start 70 = .ok (.iload_n 3, 1) := by decide +kernel
theorem dX3_start_71 : decode cX3_start 71 = .ok (.putfield 24, 3) := by decide +kernel
theorem dX3_start_74 : decode cX3_start 74 = .ok (.aload_n 0, 1) := by decide +kernel
theorem dX3_start_75 : decode cX3_start 75 = .ok (.iload 4, 2) := by decide +kernel
theorem dX3_start_77 : decode cX3_start 77 = .ok (.ifCond .ge 9, 3) := by decide +kernel
theorem dX3_start_80 : decode cX3_start 80 = .ok (.iload 4, 2) := by decide +kernel
theorem dX3_start_82 : decode cX3_start 82 = .ok (.ineg, 1) := by decide +kernel
theorem dX3_start_83 : decode cX3_start 83 = .ok (.goto 5, 3) := by decide +kernel
theorem dX3_start_86 : decode cX3_start 86 = .ok (.iload 4, 2) := by decide +kernel
theorem dX3_start_88 : decode cX3_start 88 = .ok (.putfield 27, 3) := by decide +kernel
theorem dX3_start_91 : decode cX3_start 91 = .ok (.aload_n 0, 1) := by decide +kernel
theorem dX3_start_92 : decode cX3_start 92 = .ok (.aload_n 0, 1) := by decide +kernel
theorem dX3_start_93 : decode cX3_start 93 = .ok (.getfield 27, 3) := by decide +kernel
theorem dX3_start_96 : decode cX3_start 96 = .ok (.aload_n 0, 1) := by decide +kernel
theorem dX3_start_97 : decode cX3_start 97 = .ok (.getfield 24, 3) := by decide +kernel
theorem dX3_start_100 : decode cX3_start 100 = .ok (.isub, 1) := by decide +kernel
theorem dX3_start_101 : decode cX3_start 101 = .ok (.putfield 30, 3) := by decide +kernel
theorem dX3_start_104 : decode cX3_start 104 = .ok (.return_, 1) := by decide +kernel
theorem dX3_advance_0 : decode cX3_advance 0 = .ok (.aload_n 0, 1) := by decide +kernel
theorem dX3_advance_1 : decode cX3_advance 1 = .ok (.getfield 30, 3) := by decide +kernel
theorem dX3_advance_4 : decode cX3_advance 4 = .ok (.istore_n 1, 1) := by decide +kernel
theorem dX3_advance_5 : decode cX3_advance 5 = .ok (.iload_n 1, 1) := by decide +kernel
theorem dX3_advance_6 : decode cX3_advance 6 = .ok (.ifCond .gt 31, 3) := by decide +kernel
theorem dX3_advance_9 : decode cX3_advance 9 = .ok (.aload_n 0, 1) := by decide +kernel
theorem dX3_advance_10 : decode cX3_advance 10 = .ok (.dup, 1) := by decide +kernel
theorem dX3_advance_11 : decode cX3_advance 11 = .ok (.getfield 9, 3) := by decide +kernel
theorem dX3_advance_14 : decode cX3_advance 14 = .ok (.aload_n 0, 1) := by decide +kernel
theorem dX3_advance_15 : decode cX3_advance 15 = .ok (.getfield 18, 3) := by decide +kernel
theorem dX3_advance_18 : decode cX3_advance 18 = .ok (.iadd, 1) := by decide +kernel
theorem dX3_advance_19 : decode cX3_advance 19 = .ok (.putfield 9, 3) := by decide +kernel
theorem dX3_advance_22 : decode cX3_advance 22 = .ok (.aload_n 0, 1) := by decide +kernel
theorem dX3_advance_23 : decode cX3_advance 23 = .ok (.dup, 1) := by decide +kernel
theorem dX3_advance_24 : decode cX3_advance 24 = .ok (.getfield 30, 3) := by decide +kernel
theorem dX3_advance_27 : decode cX3_advance 27 = .ok (.iconst 2, 1) := by decide +kernel
theorem dX3_advance_28 : decode cX3_advance 28 = .ok (.aload_n 0, 1) := by decide +kernel
theorem dX3_advance_29 : decode cX3_advance 29 = .ok (.getfield 27, 3) := by decide +kernel
theorem dX3_advance_32 : decode cX3_advance 32 = .ok (.imul, 1) := by decide +kernel
theorem dX3_advance_33 : decode cX3_advance 33 = .ok (.iadd, 1) := by decide +kernel
theorem dX3_advance_34 : decode cX3_advance 34 = .ok (.putfield 30, 3) := by decide +kernel
theorem dX3_advance_37 : decode cX3_advance 37 = .ok (.iload_n 1, 1) := by decide +kernel
theorem dX3_advance_38 : decode cX3_advance 38 = .ok (.ifCond .lt 31, 3) := by decide +kernel
theorem dX3_advance_41 : decode cX3_advance 41 = .ok (.aload_n 0, 1) := by decide +kernel
theorem dX3_advance_42 : decode cX3_advance 42 = .ok (.dup, 1) := by decide +kernel
theorem dX3_advance_43 : decode cX3_advance 43 = .ok (.getfield 9, 3) := by decide +kernel
theorem dX3_advance_46 : decode cX3_advance 46 = .ok (.aload_n 0, 1) := by decide +kernel
theorem dX3_advance_47 : decode cX3_advance 47 = .ok (.getfield 21, 3) := by decide +kernel
theorem dX3_advance_50 : decode cX3_advance 50 = .ok (.iadd, 1) := by decide +kernel
theorem dX3_advance_51 : decode cX3_advance 51 = .ok (.putfield 9, 3) := by decide +kernel
theorem dX3_advance_54 : decode cX3_advance 54 = .ok (.aload_n 0, 1) := by decide +kernel
theorem dX3_advance_55 : decode cX3_advance 55 = .ok (.dup, 1) := by decide +kernel
theorem dX3_advance_56 : decode cX3_advance 56 = .ok (.getfield 30, 3) := by decide +kernel
theorem dX3_advance_59 : decode cX3_advance 59 = .ok (.iconst 2, 1) := by decide +kernel
theorem dX3_advance_60 : decode cX3_advance 60 = .ok (.aload_n 0, 1) := by decide +kernel
theorem dX3_advance_61 : decode cX3_advance 61 = .ok (.getfield 24, 3) := by decide +kernel
theorem dX3_advance_64 : decode cX3_advance 64 = .ok (.imul, 1) := by decide +kernel
theorem dX3_advance_65 : decode cX3_advance 65 = .ok (.isub, 1) := by decide +kernel
theorem dX3_advance_66 : decode cX3_advance 66 = .ok (.putfield 30, 3) := by decide +kernel
theorem dX3_advance_69 : decode cX3_advance 69 = .ok (.return_, 1) := by decide +kernel
theorem dX3_isStopped_0 : decode cX3_isStopped 0 = .ok (.iload_n 1, 1) := by decide +kernel
theorem dX3_isStopped_1 : decode cX3_isStopped 1 = .ok (.ifCond .lt 27, 3) := by decide +kernel
theorem dX3_isStopped_4 : decode cX3_isStopped 4 = .ok (.iload_n 1, 1) := by decide +kernel
theorem dX3_isStopped_5 : decode cX3_isStopped 5 = .ok (.bipush 64, 2) := by decide +kernel
theorem dX3_isStopped_7 : decode cX3_isStopped 7 = .ok (.if_icmp .ge 21, 3) := by decide +kernel
theorem dX3_isStopped_10 : decode cX3_isStopped 10 = .ok (.aload_n 0, 1) := by decide +kernel
theorem dX3_isStopped_11 : decode cX3_isStopped 11 = .ok (.iload_n 1, 1) := by decide +kernel
theorem dX3_isStopped_12 : decode cX3_isStopped 12 = .ok (.iaload, 1) := by decide +kernel
theorem dX3_isStopped_13 : decode cX3_isStopped 13 = .ok (.iconst 1, 1) := by decide +kernel
theorem dX3_isStopped_14 : decode cX3_isStopped 14 = .ok (.if_icmp .eq 10, 3) := by decide +kernel
theorem dX3_isStopped_17 : decode cX3_isStopped 17 = .ok (.aload_n 0, 1) := by decide +kernel
theorem dX3_isStopped_18 : decode cX3_isStopped 18 = .ok (.iload_n 1, 1) := by decide +kernel
theorem dX3_isStopped_19 : decode cX3_isStopped 19 = .ok (.iaload, 1) := by decide +kernel
theorem dX3_isStopped_20 : decode cX3_isStopped 20 = .ok (.iconst 3, 1) := by decide +kernel
theorem dX3_isStopped_21 : decode cX3_isStopped 21 = .ok (.if_icmp .ne 7, 3) := by decide +kernel
theorem dX3_isStopped_24 : decode cX3_isStopped 24 = .ok (.iconst 1, 1) := by decide +kernel
theorem dX3_isStopped_25 : decode cX3_isStopped 25 = .ok (.goto 4, 3) := by decide +kernel
theorem dX3_isStopped_28 : decode cX3_isStopped 28 = .ok (.iconst 0, 1) := by decide +kernel
theorem dX3_isStopped_29 : decode cX3_isStopped 29 = .ok (.ireturn, 1) := by decide +kernel
set_option maxRecDepth 20000 in
theorem ggX3_isFreeAlong_X3_start : GoodIn wsX3_isFreeAlong wsX3_start := goodIn_r _ [10, 1, 2, 4, 5, 11, 12, 3, 20, 21, 22, 23, 24, 25, 26] (by decide +kernel) (by decide +kernel)
set_option maxRecDepth 20000 in
theorem gX3_isFreeAlong_X3_start : GoodIn wsX3_isFreeAlong (wsV RX3 33 RX3 yX3_start wsX3_start) := goodIn_app (goodIn_of _ (by decide +kernel)) ggX3_isFreeAlong_X3_start
set_option maxRecDepth 20000 in
theorem ggX3_isFreeAlong_X3_isStopped : GoodIn wsX3_isFreeAlong wsX3_isStopped := goodIn_r _ [15] (by decide +kernel) (by decide +kernel)
set_option maxRecDepth 20000 in
theorem gX3_isFreeAlong_X3_isStopped : GoodIn wsX3_isFreeAlong (va_wsS RX3 37 yX3_isStopped wsX3_isStopped) := goodIn_app (goodIn_of _ (by decide +kernel)) ggX3_isFreeAlong_X3_isStopped
set_option maxRecDepth 20000 in
theorem ggX3_isFreeAlong_X3_advance : GoodIn wsX3_isFreeAlong wsX3_advance := goodIn_r _ [19, 3, 1, 4, 12, 5, 11, 20, 21, 22, 23, 24, 25, 26] (by decide +kernel) (by decide +kernel)
set_option maxRecDepth 20000 in
theorem gX3_isFreeAlong_X3_advance : GoodIn wsX3_isFreeAlong (wsV RX3 41 RX3 yX3_advance wsX3_advance) := goodIn_app (goodIn_of _ (by decide +kernel)) ggX3_isFreeAlong_X3_advance
theorem dX3_isFreeAlong_0 : decode cX3_isFreeAlong 0 = .ok (.aload_n 0, 1) := by decide +kernel
theorem dX3_isFreeAlong_1 : decode cX3_isFreeAlong 1 = .ok (.iload_n 2, 1) := by decide +kernel
theorem dX3_isFreeAlong_2 : decode cX3_isFreeAlong 2 = .ok (.iload_n 3, 1) := by decide +kernel
theorem dX3_isFreeAlong_3 : decode cX3_isFreeAlong 3 = .ok (.invokevirtual 33, 3) := by decide +kernel
theorem dX3_isFreeAlong_6 : decode cX3_isFreeAlong 6 = .ok (.iconst 0, 1) := by decide +kernel
theorem dX3_isFreeAlong_7 : decode cX3_isFreeAlong 7 = .ok (.istore 4, 2) := by decide +kernel
theorem dX3_isFreeAlong_9 : decode cX3_isFreeAlong 9 = .ok (.iload 4, 2) := by decide +kernel
theorem dX3_isFreeAlong_11 : decode cX3_isFreeAlong 11 = .ok (.bipush 16, 2) := by decide +kernel
theorem dX3_isFreeAlong_13 : decode cX3_isFreeAlong 13 = .ok (.if_icmp .ge 89, 3) := by decide +kernel
theorem dX3_isFreeAlong_16 : decode cX3_isFreeAlong 16 = .ok (.aload_n 0, 1) := by decide +kernel
theorem dX3_isFreeAlong_17 : decode cX3_isFreeAlong 17 = .ok (.getfield 9, 3) := by decide +kernel
theorem dX3_isFreeAlong_20 : decode cX3_isFreeAlong 20 = .ok (.aload_n 0, 1) := by decide +kernel
theorem dX3_isFreeAlong_21 : decode cX3_isFreeAlong 21 = .ok (.getfield 15, 3) := by decide +kernel
theorem dX3_isFreeAlong_24 : decode cX3_isFreeAlong 24 = .ok (.if_icmp .eq 78, 3) := by decide +kernel
theorem dX3_isFreeAlong_27 : decode cX3_isFreeAlong 27 = .ok (.aload_n 0, 1) := by decide +kernel
theorem dX3_isFreeAlong_28 : decode cX3_isFreeAlong 28 = .ok (.getfield 30, 3) := by decide +kernel
theorem dX3_isFreeAlong_31 : decode cX3_isFreeAlong 31 = .ok (.ifCond .ne 37, 3) := by decide +kernel
theorem dX3_isFreeAlong_34 : decode cX3_isFreeAlong 34 = .ok (.aload_n 1, 1) := by decide +kernel
theorem dX3_isFreeAlong_35 : decode cX3_isFreeAlong 35 = .ok (.aload_n 0, 1) := by decide +kernel
theorem dX3_isFreeAlong_36 : decode cX3_isFreeAlong 36 = .ok (.getfield 9, 3) := by decide +kernel
theorem dX3_isFreeAlong_39 : decode cX3_isFreeAlong 39 = .ok (.aload_n 0, 1) := by decide +kernel
theorem dX3_isFreeAlong_40 : decode cX3_isFreeAlong 40 = .ok (.getfield 18, 3) := by decide +kernel
theorem dX3_isFreeAlong_43 : decode cX3_isFreeAlong 43 = .ok (.iadd, 1) := by decide +kernel
theorem dX3_isFreeAlong_44 : decode cX3_isFreeAlong 44 = .ok (.invokestatic 37, 3) := by decide +kernel
theorem dX3_isFreeAlong_47 : decode cX3_isFreeAlong 47 = .ok (.ifCond .eq 21, 3) := by decide +kernel
theorem dX3_isFreeAlong_50 : decode cX3_isFreeAlong 50 = .ok (.aload_n 1, 1) := by decide +kernel
theorem dX3_isFreeAlong_51 : decode cX3_isFreeAlong 51 = .ok (.aload_n 0, 1) := by decide +kernel
theorem dX3_isFreeAlong_52 : decode cX3_isFreeAlong 52 = .ok (.getfield 9, 3) := by decide +kernel
theorem dX3_isFreeAlong_55 : decode cX3_isFreeAlong 55 = .ok (.aload_n 0, 1) := by decide +kernel
theorem dX3_isFreeAlong_56 : decode cX3_isFreeAlong 56 = .ok (.getfield 21, 3) := by decide +kernel
theorem dX3_isFreeAlong_59 : decode cX3_isFreeAlong 59 = .ok (.iadd, 1) := by decide +kernel
theorem dX3_isFreeAlong_60 : decode cX3_isFreeAlong 60 = .ok (.invokestatic 37, 3) := by decide +kernel
theorem dX3_isFreeAlong_63 : decode cX3_isFreeAlong 63 = .ok (.ifCond .eq 5, 3) := by decide +kernel
theorem dX3_isFreeAlong_66 : decode cX3_isFreeAlong 66 = .ok (.iconst 0, 1) := by decide +kernel
theorem dX3_isFreeAlong_67 : decode cX3_isFreeAlong 67 = .ok (.ireturn, 1) := by decide +kernel
theorem dX3_isFreeAlong_68 : decode cX3_isFreeAlong 68 = .ok (.aload_n 0, 1) := by decide +kernel
theorem dX3_isFreeAlong_69 : decode cX3_isFreeAlong 69 = .ok (.invokevirtual 41, 3) := by decide +kernel
theorem dX3_isFreeAlong_72 : decode cX3_isFreeAlong 72 = .ok (.aload_n 0, 1) := by decide +kernel
theorem dX3_isFreeAlong_73 : decode cX3_isFreeAlong 73 = .ok (.getfield 9, 3) := by decide +kernel
theorem dX3_isFreeAlong_76 : decode cX3_isFreeAlong 76 = .ok (.aload_n 0, 1) := by decide +kernel
theorem dX3_isFreeAlong_77 : decode cX3_isFreeAlong 77 = .ok (.getfield 15, 3) := by decide +kernel
theorem dX3_isFreeAlong_80 : decode cX3_isFreeAlong 80 = .ok (.if_icmp .eq 16, 3) := by decide +kernel
theorem dX3_isFreeAlong_83 : decode cX3_isFreeAlong 83 = .ok (.aload_n 1, 1) := by decide +kernel
theorem dX3_isFreeAlong_84 : decode cX3_isFreeAlong 84 = .ok (.aload_n 0, 1) := by decide +kernel
theorem dX3_isFreeAlong_85 : decode cX3_isFreeAlong 85 = .ok (.getfield 9, 3) := by decide +kernel
theorem dX3_isFreeAlong_88 : decode cX3_isFreeAlong 88 = .ok (.invokestatic 37, 3) := by decide +kernel
theorem dX3_isFreeAlong_91 : decode cX3_isFreeAlong 91 = .ok (.ifCond .eq 5, 3) := by decide +kernel
theorem dX3_isFreeAlong_94 : decode cX3_isFreeAlong 94 = .ok (.iconst 0, 1) := by decide +kernel
theorem dX3_isFreeAlong_95 : decode cX3_isFreeAlong 95 = .ok (.ireturn, 1) := by decide +kernel
theorem dX3_isFreeAlong_96 : decode cX3_isFreeAlong 96 = .ok (.iinc 4 1, 3) := by decide +kernel
theorem dX3_isFreeAlong_99 : decode cX3_isFreeAlong 99 = .ok (.goto (-90), 3) := by decide +kernel
theorem dX3_isFreeAlong_102 : decode cX3_isFreeAlong 102 = .ok (.iconst 1, 1) := by decide +kernel
theorem dX3_isFreeAlong_103 : decode cX3_isFreeAlong 103 = .ok (.ireturn, 1) := by decide +kernel
set_option maxRecDepth 20000 in
theorem ggX3_firstStop_X3_start : GoodIn wsX3_firstStop wsX3_start := goodIn_r _ [7, 1, 2, 8, 9, 10, 11, 12, 20, 21, 22, 23, 24, 25, 26] (by decide +kernel) (by decide +kernel)
set_option maxRecDepth 20000 in
theorem gX3_firstStop_X3_start : GoodIn wsX3_firstStop (wsV RX3 33 RX3 yX3_start wsX3_start) := goodIn_app (goodIn_of _ (by decide +kernel)) ggX3_firstStop_X3_start
set_option maxRecDepth 20000 in
theorem ggX3_firstStop_X3_advance : GoodIn wsX3_firstStop wsX3_advance := goodIn_r _ [16, 12, 1, 8, 11, 9, 10, 20, 21, 22, 23, 24, 25, 26] (by decide +kernel) (by decide +kernel)
set_option maxRecDepth 20000 in
theorem gX3_firstStop_X3_advance : GoodIn wsX3_firstStop (wsV RX3 41 RX3 yX3_advance wsX3_advance) := goodIn_app (goodIn_of _ (by decide +kernel)) ggX3_firstStop_X3_advance
set_option maxRecDepth 20000 in
theorem ggX3_firstStop_X3_isStopped : GoodIn wsX3_firstStop wsX3_isStopped := goodIn_r _ [19] (by decide +kernel) (by decide +kernel)
set_option maxRecDepth 20000 in
theorem gX3_firstStop_X3_isStopped : GoodIn wsX3_firstStop (va_wsS RX3 37 yX3_isStopped wsX3_isStopped) := goodIn_app (goodIn_of _ (by decide +kernel)) ggX3_firstStop_X3_isStopped
theorem dX3_firstStop_0 : decode cX3_firstStop 0 = .ok (.aload_n 0, 1) := by decide +kernel
theorem dX3_firstStop_1 : decode cX3_firstStop 1 = .ok (.iload_n 2, 1) := by decide +kernel
theorem dX3_firstStop_2 : decode cX3_firstStop 2 = .ok (.iload_n 3, 1) := by decide +kernel
theorem dX3_firstStop_3 : decode cX3_firstStop 3 = .ok (.invokevirtual 33, 3) := by decide +kernel
theorem dX3_firstStop_6 : decode cX3_firstStop 6 = .ok (.iconst 0, 1) := by decide +kernel
theorem dX3_firstStop_7 : decode cX3_firstStop 7 = .ok (.istore 4, 2) := by decide +kernel
theorem dX3_firstStop_9 : decode cX3_firstStop 9 = .ok (.iload 4, 2) := by decide +kernel
theorem dX3_firstStop_11 : decode cX3_firstStop 11 = .ok (.bipush 16, 2) := by decide +kernel
theorem dX3_firstStop_13 : decode cX3_firstStop 13 = .ok (.if_icmp .ge 51, 3) := by decide +kernel
theorem dX3_firstStop_16 : decode cX3_firstStop 16 = .ok (.aload_n 0, 1) := by decide +kernel
theorem dX3_firstStop_17 : decode cX3_firstStop 17 = .ok (.getfield 9, 3) := by decide +kernel
theorem dX3_firstStop_20 : decode cX3_firstStop 20 = .ok (.aload_n 0, 1) := by decide +kernel
theorem dX3_firstStop_21 : decode cX3_firstStop 21 = .ok (.getfield 15, 3) := by decide +kernel
theorem dX3_firstStop_24 : decode cX3_firstStop 24 = .ok (.if_icmp .eq 40, 3) := by decide +kernel
theorem dX3_firstStop_27 : decode cX3_firstStop 27 = .ok (.aload_n 0, 1) := by decide +kernel
theorem dX3_firstStop_28 : decode cX3_firstStop 28 = .ok (.invokevirtual 41, 3) := by decide +kernel
theorem dX3_firstStop_31 : decode cX3_firstStop 31 = .ok (.aload_n 0, 1) := by decide +kernel
theorem dX3_firstStop_32 : decode cX3_firstStop 32 = .ok (.getfield 9, 3) := by decide +kernel
theorem dX3_firstStop_35 : decode cX3_firstStop 35 = .ok (.aload_n 0, 1) := by decide +kernel
theorem dX3_firstStop_36 : decode cX3_firstStop 36 = .ok (.getfield 15, 3) := by decide +kernel
theorem dX3_firstStop_39 : decode cX3_firstStop 39 = .ok (.if_icmp .eq 19, 3) := by decide +kernel
theorem dX3_firstStop_42 : decode cX3_firstStop 42 = .ok (.aload_n 1, 1) := by decide +kernel
theorem dX3_firstStop_43 : decode cX3_firstStop 43 = .ok (.aload_n 0, 1) := by decide +kernel
theorem dX3_firstStop_44 : decode cX3_firstStop 44 = .ok (.getfield 9, 3) := by decide +kernel
theorem dX3_firstStop_47 : decode cX3_firstStop 47 = .ok (.invokestatic 37, 3) := by decide +kernel
theorem dX3_firstStop_50 : decode cX3_firstStop 50 = .ok (.ifCond .eq 8, 3) := by decide +kernel
theorem dX3_firstStop_53 : decode cX3_firstStop 53 = .ok (.aload_n 0, 1) := by decide +kernel
theorem dX3_firstStop_54 : decode cX3_firstStop 54 = .ok (.getfield 9, 3) := by decide +kernel
theorem dX3_firstStop_57 : decode cX3_firstStop 57 = .ok (.ireturn, 1) := by decide +kernel
theorem dX3_firstStop_58 : decode cX3_firstStop 58 = .ok (.iinc 4 1, 3) := by decide +kernel
theorem dX3_firstStop_61 : decode cX3_firstStop 61 = .ok (.goto (-52), 3) := by decide +kernel
theorem dX3_firstStop_64 : decode cX3_firstStop 64 = .ok (.bipush (-4), 2) := by decide +kernel
theorem dX3_firstStop_66 : decode cX3_firstStop 66 = .ok (.ireturn, 1) := by decide +kernel
set_option maxRecDepth 20000 in
theorem ggX3_isFreeOfEach_X3_start : GoodIn wsX3_isFreeOfEach wsX3_start := goodIn_r _ [5, 6, 7, 8, 9, 10, 11, 12, 34, 35, 36, 37, 38, 39, 40] (by decide +kernel) (by decide +kernel)
set_option maxRecDepth 20000 in
theorem gX3_isFreeOfEach_X3_start : GoodIn wsX3_isFreeOfEach (wsV RX3 33 RX3 yX3_start wsX3_start) := goodIn_app (goodIn_of _ (by decide +kernel)) ggX3_isFreeOfEach_X3_start
set_option maxRecDepth 20000 in
theorem ggX3_isFreeOfEach_X3_isStopped : GoodIn wsX3_isFreeOfEach wsX3_isStopped := goodIn_r _ [15] (by decide +kernel) (by decide +kernel)
set_option maxRecDepth 20000 in
theorem gX3_isFreeOfEach_X3_isStopped : GoodIn wsX3_isFreeOfEach (va_wsS RX3 37 yX3_isStopped wsX3_isStopped) := goodIn_app (goodIn_of _ (by decide +kernel)) ggX3_isFreeOfEach_X3_isStopped
set_option maxRecDepth 20000 in
theorem ggX3_isFreeOfEach_X3_isStoppedAt : GoodIn wsX3_isFreeOfEach wsX3_isStoppedAt := goodIn_r _ [19, 8, 9, 10, 11, 20, 21, 22, 23, 24, 25, 26, 27, 28, 29, 30, 31, 32, 33, 13, 14, 4, 15, 34, 35, 36, 37, 38, 39, 40] (by decide +kernel) (by decide +kernel)
set_option maxRecDepth 20000 in
theorem gX3_isFreeOfEach_X3_isStoppedAt : GoodIn wsX3_isFreeOfEach (wsV RX3 44 RX3 yX3_isStoppedAt wsX3_isStoppedAt) := goodIn_app (goodIn_of _ (by decide +kernel)) ggX3_isFreeOfEach_X3_isStoppedAt
theorem dX3_isFreeOfEach_0 : decode cX3_isFreeOfEach 0 = .ok (.aload_n 0, 1) := by decide +kernel
theorem dX3_isFreeOfEach_1 : decode cX3_isFreeOfEach 1 = .ok (.iload_n 2, 1) := by decide +kernel
theorem dX3_isFreeOfEach_2 : decode cX3_isFreeOfEach 2 = .ok (.iload_n 3, 1) := by decide +kernel
theorem dX3_isFreeOfEach_3 : decode cX3_isFreeOfEach 3 = .ok (.invokevirtual 33, 3) := by decide +kernel
theorem dX3_isFreeOfEach_6 : decode cX3_isFreeOfEach 6 = .ok (.iconst 0, 1) := by decide +kernel
theorem dX3_isFreeOfEach_7 : decode cX3_isFreeOfEach 7 = .ok (.istore 4, 2) := by decide +kernel
theorem dX3_isFreeOfEach_9 : decode cX3_isFreeOfEach 9 = .ok (.iload 4, 2) := by decide +kernel
theorem dX3_isFreeOfEach_11 : decode cX3_isFreeOfEach 11 = .ok (.bipush 64, 2) := by decide +kernel
theorem dX3_isFreeOfEach_13 : decode cX3_isFreeOfEach 13 = .ok (.if_icmp .ge 43, 3) := by decide +kernel
theorem dX3_isFreeOfEach_16 : decode cX3_isFreeOfEach 16 = .ok (.iload 4, 2) := by decide +kernel
theorem dX3_isFreeOfEach_18 : decode cX3_isFreeOfEach 18 = .ok (.iload_n 2, 1) := by decide +kernel
theorem dX3_isFreeOfEach_19 : decode cX3_isFreeOfEach 19 = .ok (.if_icmp .eq 31, 3) := by decide +kernel
theorem dX3_isFreeOfEach_22 : decode cX3_isFreeOfEach 22 = .ok (.iload 4, 2) := by decide +kernel
theorem dX3_isFreeOfEach_24 : decode cX3_isFreeOfEach 24 = .ok (.iload_n 3, 1) := by decide +kernel
theorem dX3_isFreeOfEach_25 : decode cX3_isFreeOfEach 25 = .ok (.if_icmp .eq 25, 3) := by decide +kernel
theorem dX3_isFreeOfEach_28 : decode cX3_isFreeOfEach 28 = .ok (.aload_n 1, 1) := by decide +kernel
theorem dX3_isFreeOfEach_29 : decode cX3_isFreeOfEach 29 = .ok (.iload 4, 2) := by decide +kernel
theorem dX3_isFreeOfEach_31 : decode cX3_isFreeOfEach 31 = .ok (.invokestatic 37, 3) := by decide +kernel
theorem dX3_isFreeOfEach_34 : decode cX3_isFreeOfEach 34 = .ok (.ifCond .eq 16, 3) := by decide +kernel
theorem dX3_isFreeOfEach_37 : decode cX3_isFreeOfEach 37 = .ok (.aload_n 0, 1) := by decide +kernel
theorem dX3_isFreeOfEach_38 : decode cX3_isFreeOfEach 38 = .ok (.aload_n 1, 1) := by decide +kernel
theorem dX3_isFreeOfEach_39 : decode cX3_isFreeOfEach 39 = .ok (.iload_n 2, 1) := by decide +kernel
theorem dX3_isFreeOfEach_40 : decode cX3_isFreeOfEach 40 = .ok (.iload 4, 2) := by decide +kernel
theorem dX3_isFreeOfEach_42 : decode cX3_isFreeOfEach 42 = .ok (.invokevirtual 44, 3) := by decide +kernel
theorem dX3_isFreeOfEach_45 : decode cX3_isFreeOfEach 45 = .ok (.ifCond .eq 5, 3) := by decide +kernel
theorem dX3_isFreeOfEach_48 : decode cX3_isFreeOfEach 48 = .ok (.iconst 0, 1) := by decide +kernel
theorem dX3_isFreeOfEach_49 : decode cX3_isFreeOfEach 49 = .ok (.ireturn, 1) := by decide +kernel
theorem dX3_isFreeOfEach_50 : decode cX3_isFreeOfEach 50 = .ok (.iinc 4 1, 3) := by decide +kernel
theorem dX3_isFreeOfEach_53 : decode cX3_isFreeOfEach 53 = .ok (.goto (-44), 3) := by decide +kernel
theorem dX3_isFreeOfEach_56 : decode cX3_isFreeOfEach 56 = .ok (.iconst 1, 1) := by decide +kernel
theorem dX3_isFreeOfEach_57 : decode cX3_isFreeOfEach 57 = .ok (.ireturn, 1) := by decide +kernel
set_option maxRecDepth 20000 in
theorem ggX3_isStoppedAt_X0_row : GoodIn wsX3_isStoppedAt wsX0_row := goodIn_r _ [12] (by decide +kernel) (by decide +kernel)
set_option maxRecDepth 20000 in
theorem gX3_isStoppedAt_X0_row : GoodIn wsX3_isStoppedAt (va_wsS RX3 48 yX0_row wsX0_row) := goodIn_app (goodIn_of _ (by decide +kernel)) ggX3_isStoppedAt_X0_row
set_option maxRecDepth 20000 in
theorem ggX3_isStoppedAt_X0_column : GoodIn wsX3_isStoppedAt wsX0_column := goodIn_r _ [15] (by decide +kernel) (by decide +kernel)
set_option maxRecDepth 20000 in
theorem gX3_isStoppedAt_X0_column : GoodIn wsX3_isStoppedAt (va_wsS RX3 54 yX0_column wsX0_column) := goodIn_app (goodIn_of _ (by decide +kernel)) ggX3_isStoppedAt_X0_column
set_option maxRecDepth 20000 in
theorem ggX3_isStoppedAt_X7_isWithin : GoodIn wsX3_isStoppedAt wsX7_isWithin := goodIn_r _ [18] (by decide +kernel) (by decide +kernel)
set_option maxRecDepth 20000 in
theorem gX3_isStoppedAt_X7_isWithin_n57 : GoodIn wsX3_isStoppedAt (wsX7_isWithin) := ggX3_isStoppedAt_X7_isWithin
set_option maxRecDepth 20000 in
theorem ggX3_isStoppedAt_X3_isStopped : GoodIn wsX3_isStoppedAt wsX3_isStopped := goodIn_r _ [22] (by decide +kernel) (by decide +kernel)
set_option maxRecDepth 20000 in
theorem gX3_isStoppedAt_X3_isStopped : GoodIn wsX3_isStoppedAt (va_wsS RX3 37 yX3_isStopped wsX3_isStopped) := goodIn_app (goodIn_of _ (by decide +kernel)) ggX3_isStoppedAt_X3_isStopped
theorem dX3_isStoppedAt_0 : decode cX3_isStoppedAt 0 = .ok (.iload_n 3, 1) := by decide +kernel
theorem dX3_isStoppedAt_1 : decode cX3_isStoppedAt 1 = .ok (.invokestatic 48, 3) := by decide +kernel
theorem dX3_isStoppedAt_4 : decode cX3_isStoppedAt 4 = .ok (.iload_n 2, 1) := by decide +kernel
theorem dX3_isStoppedAt_5 : decode cX3_isStoppedAt 5 = .ok (.invokestatic 48, 3) := by decide +kernel
theorem dX3_isStoppedAt_8 : decode cX3_isStoppedAt 8 = .ok (.isub, 1) := by decide +kernel
theorem dX3_isStoppedAt_9 : decode cX3_isStoppedAt 9 = .ok (.aload_n 0, 1) := by decide +kernel
theorem dX3_isStoppedAt_10 : decode cX3_isStoppedAt 10 = .ok (.getfield 18, 3) := by decide +kernel
theorem dX3_isStoppedAt_13 : decode cX3_isStoppedAt 13 = .ok (.ifCond .le 7, 3) := by decide +kernel
theorem dX3_isStoppedAt_16 : decode cX3_isStoppedAt 16 = .ok (.iconst 1, 1) := by decide +kernel
theorem dX3_isStoppedAt_17 : decode cX3_isStoppedAt 17 = .ok (.goto 4, 3) := by decide +kernel
theorem dX3_isStoppedAt_20 : decode cX3_isStoppedAt 20 = .ok (.iconst (-1), 1) := by decide +kernel
theorem dX3_isStoppedAt_21 : decode cX3_isStoppedAt 21 = .ok (.imul, 1) := by decide +kernel
theorem dX3_isStoppedAt_22 : decode cX3_isStoppedAt 22 = .ok (.istore 4, 2) := by decide +kernel
theorem dX3_isStoppedAt_24 : decode cX3_isStoppedAt 24 = .ok (.iload_n 3, 1) := by decide +kernel
theorem dX3_isStoppedAt_25 : decode cX3_isStoppedAt 25 = .ok (.invokestatic 54, 3) := by decide +kernel
theorem dX3_isStoppedAt_28 : decode cX3_isStoppedAt 28 = .ok (.iload_n 2, 1) := by decide +kernel
theorem dX3_isStoppedAt_29 : decode cX3_isStoppedAt 29 = .ok (.invokestatic 54, 3) := by decide +kernel
theorem dX3_isStoppedAt_32 : decode cX3_isStoppedAt 32 = .ok (.isub, 1) := by decide +kernel
theorem dX3_isStoppedAt_33 : decode cX3_isStoppedAt 33 = .ok (.aload_n 0, 1) := by decide +kernel
theorem dX3_isStoppedAt_34 : decode cX3_isStoppedAt 34 = .ok (.getfield 21, 3) := by decide +kernel
theorem dX3_isStoppedAt_37 : decode cX3_isStoppedAt 37 = .ok (.imul, 1) := by decide +kernel
theorem dX3_isStoppedAt_38 : decode cX3_isStoppedAt 38 = .ok (.istore 5, 2) := by decide +kernel
theorem dX3_isStoppedAt_40 : decode cX3_isStoppedAt 40 = .ok (.iload 4, 2) := by decide +kernel
theorem dX3_isStoppedAt_42 : decode cX3_isStoppedAt 42 = .ok (.iconst 0, 1) := by decide +kernel
theorem dX3_isStoppedAt_43 : decode cX3_isStoppedAt 43 = .ok (.aload_n 0, 1) := by decide +kernel
theorem dX3_isStoppedAt_44 : decode cX3_isStoppedAt 44 = .ok (.getfield 24, 3) := by decide +kernel
theorem dX3_isStoppedAt_47 : decode cX3_isStoppedAt 47 = .ok (.invokestatic 57, 3) := by decide +kernel
theorem dX3_isStoppedAt_50 : decode cX3_isStoppedAt 50 = .ok (.ifCond .eq 16, 3) := by decide +kernel
theorem dX3_isStoppedAt_53 : decode cX3_isStoppedAt 53 = .ok (.iload 5, 2) := by decide +kernel
theorem dX3_isStoppedAt_55 : decode cX3_isStoppedAt 55 = .ok (.iconst 0, 1) := by decide +kernel
theorem dX3_isStoppedAt_56 : decode cX3_isStoppedAt 56 = .ok (.aload_n 0, 1) := by decide +kernel
theorem dX3_isStoppedAt_57 : decode cX3_isStoppedAt 57 = .ok (.getfield 27, 3) := by decide +kernel
theorem dX3_isStoppedAt_60 : decode cX3_isStoppedAt 60 = .ok (.invokestatic 57, 3) := by decide +kernel
theorem dX3_isStoppedAt_63 : decode cX3_isStoppedAt 63 = .ok (.ifCond .ne 5, 3) := by decide +kernel
theorem dX3_isStoppedAt_66 : decode cX3_isStoppedAt 66 = .ok (.iconst 0, 1) := by decide +kernel
theorem dX3_isStoppedAt_67 : decode cX3_isStoppedAt 67 = .ok (.ireturn, 1) := by decide +kernel
theorem dX3_isStoppedAt_68 : decode cX3_isStoppedAt 68 = .ok (.iconst 2, 1) := by decide +kernel
theorem dX3_isStoppedAt_69 : decode cX3_isStoppedAt 69 = .ok (.iload 4, 2) := by decide +kernel
theorem dX3_isStoppedAt_71 : decode cX3_isStoppedAt 71 = .ok (.aload_n 0, 1) := by decide +kernel
theorem dX3_isStoppedAt_72 : decode cX3_isStoppedAt 72 = .ok (.getfield 27, 3) := by decide +kernel
theorem dX3_isStoppedAt_75 : decode cX3_isStoppedAt 75 = .ok (.imul, 1) := by decide +kernel
theorem dX3_isStoppedAt_76 : decode cX3_isStoppedAt 76 = .ok (.iload 5, 2) := by decide +kernel
theorem dX3_isStoppedAt_78 : decode cX3_isStoppedAt 78 = .ok (.aload_n 0, 1) := by decide +kernel
theorem dX3_isStoppedAt_79 : decode cX3_isStoppedAt 79 = .ok (.getfield 24, 3) := by decide +kernel
theorem dX3_isStoppedAt_82 : decode cX3_isStoppedAt 82 = .ok (.imul, 1) := by decide +kernel
theorem dX3_isStoppedAt_83 : decode cX3_isStoppedAt 83 = .ok (.isub, 1) := by decide +kernel
theorem dX3_isStoppedAt_84 : decode cX3_isStoppedAt 84 = .ok (.imul, 1) := by decide +kernel
theorem dX3_isStoppedAt_85 : decode cX3_isStoppedAt 85 = .ok (.istore 6, 2) := by decide +kernel
theorem dX3_isStoppedAt_87 : decode cX3_isStoppedAt 87 = .ok (.iload 6, 2) := by decide +kernel
theorem dX3_isStoppedAt_89 : decode cX3_isStoppedAt 89 = .ok (.invokestatic 61, 3) := by decide +kernel
theorem dX3_isStoppedAt_92 : decode cX3_isStoppedAt 92 = .ok (.aload_n 0, 1) := by decide +kernel
theorem dX3_isStoppedAt_93 : decode cX3_isStoppedAt 93 = .ok (.getfield 24, 3) := by decide +kernel
theorem dX3_isStoppedAt_96 : decode cX3_isStoppedAt 96 = .ok (.aload_n 0, 1) := by decide +kernel
theorem dX3_isStoppedAt_97 : decode cX3_isStoppedAt 97 = .ok (.getfield 27, 3) := by decide +kernel
theorem dX3_isStoppedAt_100 : decode cX3_isStoppedAt 100 = .ok (.iadd, 1) := by decide +kernel
theorem dX3_isStoppedAt_101 : decode cX3_isStoppedAt 101 = .ok (.if_icmp .eq 26, 3) := by decide +kernel
theorem dX3_isStoppedAt_104 : decode cX3_isStoppedAt 104 = .ok (.iload 6, 2) := by decide +kernel
theorem dX3_isStoppedAt_106 : decode cX3_isStoppedAt 106 = .ok (.invokestatic 61, 3) := by decide +kernel
theorem dX3_isStoppedAt_109 : decode cX3_isStoppedAt 109 = .ok (.aload_n 0, 1) := by decide +kernel
theorem dX3_isStoppedAt_110 : decode cX3_isStoppedAt 110 = .ok (.getfield 24, 3) := by decide +kernel
theorem dX3_isStoppedAt_113 : decode cX3_isStoppedAt 113 = .ok (.aload_n 0, 1) := by decide +kernel
theorem dX3_isStoppedAt_114 : decode cX3_isStoppedAt 114 = .ok (.getfield 27, 3) := by decide +kernel
theorem dX3_isStoppedAt_117 : decode cX3_isStoppedAt 117 = .ok (.iadd, 1) := by decide +kernel
theorem dX3_isStoppedAt_118 : decode cX3_isStoppedAt 118 = .ok (.if_icmp .ge 7, 3) := by decide +kernel
theorem dX3_isStoppedAt_121 : decode cX3_isStoppedAt 121 = .ok (.iconst 1, 1) := by decide +kernel
theorem dX3_isStoppedAt_122 : decode cX3_isStoppedAt 122 = .ok (.goto 4, 3) := by decide +kernel
theorem dX3_isStoppedAt_125 : decode cX3_isStoppedAt 125 = .ok (.iconst 0, 1) := by decide +kernel
theorem dX3_isStoppedAt_126 : decode cX3_isStoppedAt 126 = .ok (.ireturn, 1) := by decide +kernel
theorem dX3_isStoppedAt_127 : decode cX3_isStoppedAt 127 = .ok (.iload 6, 2) := by decide +kernel
theorem dX3_isStoppedAt_129 : decode cX3_isStoppedAt 129 = .ok (.ifCond .le 17, 3) := by decide +kernel
theorem dX3_isStoppedAt_132 : decode cX3_isStoppedAt 132 = .ok (.iload_n 3, 1) := by decide +kernel
theorem dX3_isStoppedAt_133 : decode cX3_isStoppedAt 133 = .ok (.aload_n 0, 1) := by decide +kernel
theorem dX3_isStoppedAt_134 : decode cX3_isStoppedAt 134 = .ok (.getfield 18, 3) := by decide +kernel
theorem dX3_isStoppedAt_137 : decode cX3_isStoppedAt 137 = .ok (.isub, 1) := by decide +kernel
theorem dX3_isStoppedAt_138 : decode cX3_isStoppedAt 138 = .ok (.aload_n 0, 1) := by decide +kernel
theorem dX3_isStoppedAt_139 : decode cX3_isStoppedAt 139 = .ok (.getfield 21, 3) := by decide +kernel
theorem dX3_isStoppedAt_142 : decode cX3_isStoppedAt 142 = .ok (.iadd, 1) := by decide +kernel
theorem dX3_isStoppedAt_143 : decode cX3_isStoppedAt 143 = .ok (.goto 14, 3) := by decide +kernel
theorem dX3_isStoppedAt_146 : decode cX3_isStoppedAt 146 = .ok (.iload_n 3, 1) := by decide +kernel
theorem dX3_isStoppedAt_147 : decode cX3_isStoppedAt 147 = .ok (.aload_n 0, 1) := by decide +kernel
theorem dX3_isStoppedAt_148 : decode cX3_isStoppedAt 148 = .ok (.getfield 18, 3) := by decide +kernel
theorem dX3_isStoppedAt_151 : decode cX3_isStoppedAt 151 = .ok (.iadd, 1) := by decide +kernel
theorem dX3_isStoppedAt_152 : decode cX3_isStoppedAt 152 = .ok (.aload_n 0, 1) := by decide +kernel
theorem dX3_isStoppedAt_153 : decode cX3_isStoppedAt 153 = .ok (.getfield 21, 3) := by decide +kernel
theorem dX3_isStoppedAt_156 : decode cX3_isStoppedAt 156 = .ok (.isub, 1) := by decide +kernel
theorem dX3_isStoppedAt_157 : decode cX3_isStoppedAt 157 = .ok (.istore 7, 2) := by decide +kernel
theorem dX3_isStoppedAt_159 : decode cX3_isStoppedAt 159 = .ok (.aload_n 1, 1) := by decide +kernel
theorem dX3_isStoppedAt_160 : decode cX3_isStoppedAt 160 = .ok (.iload 7, 2) := by decide +kernel
theorem dX3_isStoppedAt_162 : decode cX3_isStoppedAt 162 = .ok (.invokestatic 37, 3) := by decide +kernel
theorem dX3_isStoppedAt_165 : decode cX3_isStoppedAt 165 = .ok (.ireturn, 1) := by decide +kernel
set_option maxRecDepth 20000 in
theorem ggX3_freeCells_X3_isFreeAlong : GoodIn wsX3_freeCells wsX3_isFreeAlong := goodIn_r _ [5, 6, 7, 8, 9, 10, 11, 12, 13, 4, 14, 15, 16, 17, 18, 19, 20, 21, 22, 23, 24, 25, 26, 27, 28, 29, 30] (by decide +kernel) (by decide +kernel)
set_option maxRecDepth 20000 in
theorem gX3_freeCells_X3_isFreeAlong : GoodIn wsX3_freeCells (wsV RX3 66 RX3 yX3_isFreeAlong wsX3_isFreeAlong) := goodIn_app (goodIn_of _ (by decide +kernel)) ggX3_freeCells_X3_isFreeAlong
theorem dX3_freeCells_0 : decode cX3_freeCells 0 = .ok (.iconst 0, 1) := by decide +kernel
theorem dX3_freeCells_1 : decode cX3_freeCells 1 = .ok (.istore_n 3, 1) := by decide +kernel
theorem dX3_freeCells_2 : decode cX3_freeCells 2 = .ok (.iconst 0, 1) := by decide +kernel
theorem dX3_freeCells_3 : decode cX3_freeCells 3 = .ok (.istore 4, 2) := by decide +kernel
theorem dX3_freeCells_5 : decode cX3_freeCells 5 = .ok (.iload 4, 2) := by decide +kernel
theorem dX3_freeCells_7 : decode cX3_freeCells 7 = .ok (.bipush 64, 2) := by decide +kernel
theorem dX3_freeCells_9 : decode cX3_freeCells 9 = .ok (.if_icmp .ge 23, 3) := by decide +kernel
theorem dX3_freeCells_12 : decode cX3_freeCells 12 = .ok (.aload_n 0, 1) := by decide +kernel
theorem dX3_freeCells_13 : decode cX3_freeCells 13 = .ok (.aload_n 1, 1) := by decide +kernel
theorem dX3_freeCells_14 : decode cX3_freeCells 14 = .ok (.iload_n 2, 1) := by decide +kernel
theorem dX3_freeCells_15 : decode cX3_freeCells 15 = .ok (.iload 4, 2) := by decide +kernel
theorem dX3_freeCells_17 : decode cX3_freeCells 17 = .ok (.invokevirtual 66, 3) := by decide +kernel
theorem dX3_freeCells_20 : decode cX3_freeCells 20 = .ok (.ifCond .eq 6, 3) := by decide +kernel
theorem dX3_freeCells_23 : decode cX3_freeCells 23 = .ok (.iinc 3 1, 3) := by decide +kernel
theorem dX3_freeCells_26 : decode cX3_freeCells 26 = .ok (.iinc 4 1, 3) := by decide +kernel
theorem dX3_freeCells_29 : decode cX3_freeCells 29 = .ok (.goto (-24), 3) := by decide +kernel
theorem dX3_freeCells_32 : decode cX3_freeCells 32 = .ok (.iload_n 3, 1) := by decide +kernel
theorem dX3_freeCells_33 : decode cX3_freeCells 33 = .ok (.ireturn, 1) := by decide +kernel
theorem dX4_init_0 : decode cX4_init 0 = .ok (.aload_n 0, 1) := by decide +kernel
theorem dX4_init_1 : decode cX4_init 1 = .ok (.invokespecial 5, 3) := by decide +kernel
theorem dX4_init_4 : decode cX4_init 4 = .ok (.aload_n 0, 1) := by decide +kernel
theorem dX4_init_5 : decode cX4_init 5 = .ok (.bipush 80, 2) := by decide +kernel
theorem dX4_init_7 : decode cX4_init 7 = .ok (.newarray .char, 2) := by decide +kernel
theorem dX4_init_9 : decode cX4_init 9 = .ok (.putfield 11, 3) := by decide +kernel
theorem dX4_init_12 : decode cX4_init 12 = .ok (.return_, 1) := by decide +kernel
theorem dX4_add_0 : decode cX4_add 0 = .ok (.aload_n 0, 1) := by decide +kernel
theorem dX4_add_1 : decode cX4_add 1 = .ok (.getfield 15, 3) := by decide +kernel
theorem dX4_add_4 : decode cX4_add 4 = .ok (.bipush 80, 2) := by decide +kernel
theorem dX4_add_6 : decode cX4_add 6 = .ok (.if_icmp .ge 23, 3) := by decide +kernel
theorem dX4_add_9 : decode cX4_add 9 = .ok (.aload_n 0, 1) := by decide +kernel
theorem dX4_add_10 : decode cX4_add 10 = .ok (.getfield 11, 3) := by decide +kernel
theorem dX4_add_13 : decode cX4_add 13 = .ok (.aload_n 0, 1) := by decide +kernel
theorem dX4_add_14 : decode cX4_add 14 = .ok (.getfield 15, 3) := by decide +kernel
theorem dX4_add_17 : decode cX4_add 17 = .ok (.iload_n 1, 1) := by decide +kernel
theorem dX4_add_18 : decode cX4_add 18 = .ok (.castore, 1) := by decide +kernel
theorem dX4_add_19 : decode cX4_add 19 = .ok (.aload_n 0, 1) := by decide +kernel
theorem dX4_add_20 : decode cX4_add 20 = .ok (.dup, 1) := by decide +kernel
theorem dX4_add_21 : decode cX4_add 21 = .ok (.getfield 15, 3) := by decide +kernel
theorem dX4_add_24 : decode cX4_add 24 = .ok (.iconst 1, 1) := by decide +kernel
theorem dX4_add_25 : decode cX4_add 25 = .ok (.iadd, 1) := by decide +kernel
theorem dX4_add_26 : decode cX4_add 26 = .ok (.putfield 15, 3) := by decide +kernel
theorem dX4_add_29 : decode cX4_add 29 = .ok (.return_, 1) := by decide +kernel
set_option maxRecDepth 20000 in
theorem ggX4_faultAsMap_X4_fitsMap : GoodIn wsX4_faultAsMap wsX4_fitsMap := goodIn_r _ [6, 7, 8, 9, 5, 10, 11, 12, 13, 14, 15, 16] (by decide +kernel) (by decide +kernel)
set_option maxRecDepth 20000 in
theorem gX4_faultAsMap_X4_fitsMap : GoodIn wsX4_faultAsMap (wsV RX4 19 RX4 yX4_fitsMap wsX4_fitsMap) := goodIn_app (goodIn_of _ (by decide +kernel)) ggX4_faultAsMap_X4_fitsMap
theorem dX4_faultAsMap_0 : decode cX4_faultAsMap 0 = .ok (.iconst 0, 1) := by decide +kernel
theorem dX4_faultAsMap_1 : decode cX4_faultAsMap 1 = .ok (.istore_n 2, 1) := by decide +kernel
theorem dX4_faultAsMap_2 : decode cX4_faultAsMap 2 = .ok (.iload_n 2, 1) := by decide +kernel
theorem dX4_faultAsMap_3 : decode cX4_faultAsMap 3 = .ok (.aload_n 0, 1) := by decide +kernel
theorem dX4_faultAsMap_4 : decode cX4_faultAsMap 4 = .ok (.getfield 15, 3) := by decide +kernel
theorem dX4_faultAsMap_7 : decode cX4_faultAsMap 7 = .ok (.if_icmp .ge 20, 3) := by decide +kernel
theorem dX4_faultAsMap_10 : decode cX4_faultAsMap 10 = .ok (.aload_n 0, 1) := by decide +kernel
theorem dX4_faultAsMap_11 : decode cX4_faultAsMap 11 = .ok (.iload_n 2, 1) := by decide +kernel
theorem dX4_faultAsMap_12 : decode cX4_faultAsMap 12 = .ok (.iload_n 1, 1) := by decide +kernel
theorem dX4_faultAsMap_13 : decode cX4_faultAsMap 13 = .ok (.invokevirtual 19, 3) := by decide +kernel
theorem dX4_faultAsMap_16 : decode cX4_faultAsMap 16 = .ok (.ifCond .ne 5, 3) := by decide +kernel
theorem dX4_faultAsMap_19 : decode cX4_faultAsMap 19 = .ok (.iload_n 2, 1) := by decide +kernel
theorem dX4_faultAsMap_20 : decode cX4_faultAsMap 20 = .ok (.ireturn, 1) := by decide +kernel
theorem dX4_faultAsMap_21 : decode cX4_faultAsMap 21 = .ok (.iinc 2 1, 3) := by decide +kernel
theorem dX4_faultAsMap_24 : decode cX4_faultAsMap 24 = .ok (.goto (-22), 3) := by decide +kernel
theorem dX4_faultAsMap_27 : decode cX4_faultAsMap 27 = .ok (.aload_n 0, 1) := by decide +kernel
theorem dX4_faultAsMap_28 : decode cX4_faultAsMap 28 = .ok (.getfield 15, 3) := by decide +kernel
theorem dX4_faultAsMap_31 : decode cX4_faultAsMap 31 = .ok (.bipush 71, 2) := by decide +kernel
theorem dX4_faultAsMap_33 : decode cX4_faultAsMap 33 = .ok (.if_icmp .ge 10, 3) := by decide +kernel
theorem dX4_faultAsMap_36 : decode cX4_faultAsMap 36 = .ok (.aload_n 0, 1) := by decide +kernel
theorem dX4_faultAsMap_37 : decode cX4_faultAsMap 37 = .ok (.getfield 15, 3) := by decide +kernel
theorem dX4_faultAsMap_40 : decode cX4_faultAsMap 40 = .ok (.goto 5, 3) := by decide +kernel
theorem dX4_faultAsMap_43 : decode cX4_faultAsMap 43 = .ok (.bipush (-4), 2) := by decide +kernel
theorem dX4_faultAsMap_45 : decode cX4_faultAsMap 45 = .ok (.ireturn, 1) := by decide +kernel
set_option maxRecDepth 20000 in
theorem ggX4_fitsMap_X4_kindOf : GoodIn wsX4_fitsMap wsX4_kindOf := goodIn_r _ [5] (by decide +kernel) (by decide +kernel)
set_option maxRecDepth 20000 in
theorem gX4_fitsMap_X4_kindOf : GoodIn wsX4_fitsMap (va_wsS RX4 23 yX4_kindOf wsX4_kindOf) := goodIn_app (goodIn_of _ (by decide +kernel)) ggX4_fitsMap_X4_kindOf
set_option maxRecDepth 20000 in
theorem ggX4_fitsMap_X0_stopsFeet : GoodIn wsX4_fitsMap wsX0_stopsFeet := goodIn_r _ [9] (by decide +kernel) (by decide +kernel)
set_option maxRecDepth 20000 in
theorem gX4_fitsMap_X0_stopsFeet : GoodIn wsX4_fitsMap (va_wsS RX4 27 yX0_stopsFeet wsX0_stopsFeet) := goodIn_app (goodIn_of _ (by decide +kernel)) ggX4_fitsMap_X0_stopsFeet
theorem dX4_fitsMap_0 : decode cX4_fitsMap 0 = .ok (.iload_n 1, 1) := by decide +kernel
theorem dX4_fitsMap_1 : decode cX4_fitsMap 1 = .ok (.bipush 71, 2) := by decide +kernel
theorem dX4_fitsMap_3 : decode cX4_fitsMap 3 = .ok (.if_icmp .lt 5, 3) := by decide +kernel
theorem dX4_fitsMap_6 : decode cX4_fitsMap 6 = .ok (.iconst 0, 1) := by decide +kernel
theorem dX4_fitsMap_7 : decode cX4_fitsMap 7 = .ok (.ireturn, 1) := by decide +kernel
theorem dX4_fitsMap_8 : decode cX4_fitsMap 8 = .ok (.iload_n 1, 1) := by decide +kernel
theorem dX4_fitsMap_9 : decode cX4_fitsMap 9 = .ok (.bipush 9, 2) := by decide +kernel
theorem dX4_fitsMap_11 : decode cX4_fitsMap 11 = .ok (.irem, 1) := by decide +kernel
theorem dX4_fitsMap_12 : decode cX4_fitsMap 12 = .ok (.istore_n 3, 1) := by decide +kernel
theorem dX4_fitsMap_13 : decode cX4_fitsMap 13 = .ok (.iload_n 3, 1) := by decide +kernel
theorem dX4_fitsMap_14 : decode cX4_fitsMap 14 = .ok (.bipush 8, 2) := by decide +kernel
theorem dX4_fitsMap_16 : decode cX4_fitsMap 16 = .ok (.if_icmp .ne 20, 3) := by decide +kernel
theorem dX4_fitsMap_19 : decode cX4_fitsMap 19 = .ok (.aload_n 0, 1) := by decide +kernel
theorem dX4_fitsMap_20 : decode cX4_fitsMap 20 = .ok (.getfield 11, 3) := by decide +kernel
theorem dX4_fitsMap_23 : decode cX4_fitsMap 23 = .ok (.iload_n 1, 1) := by decide +kernel
theorem dX4_fitsMap_24 : decode cX4_fitsMap 24 = .ok (.caload, 1) := by decide +kernel
theorem dX4_fitsMap_25 : decode cX4_fitsMap 25 = .ok (.bipush 47, 2) := by decide +kernel
theorem dX4_fitsMap_27 : decode cX4_fitsMap 27 = .ok (.if_icmp .ne 7, 3) := by decide +kernel
theorem dX4_fitsMap_30 : decode cX4_fitsMap 30 = .ok (.iconst 1, 1) := by decide +kernel
theorem dX4_fitsMap_31 : decode cX4_fitsMap 31 = .ok (.goto 4, 3) := by decide +kernel
theorem dX4_fitsMap_34 : decode cX4_fitsMap 34 = .ok (.iconst 0, 1) := by decide +kernel
theorem dX4_fitsMap_35 : decode cX4_fitsMap 35 = .ok (.ireturn, 1) := by decide +kernel
theorem dX4_fitsMap_36 : decode cX4_fitsMap 36 = .ok (.aload_n 0, 1) := by decide +kernel
theorem dX4_fitsMap_37 : decode cX4_fitsMap 37 = .ok (.getfield 11, 3) := by decide +kernel
theorem dX4_fitsMap_40 : decode cX4_fitsMap 40 = .ok (.iload_n 1, 1) := by decide +kernel
theorem dX4_fitsMap_41 : decode cX4_fitsMap 41 = .ok (.caload, 1) := by decide +kernel
theorem dX4_fitsMap_42 : decode cX4_fitsMap 42 = .ok (.invokestatic 23, 3) := by decide +kernel
theorem dX4_fitsMap_45 : decode cX4_fitsMap 45 = .ok (.istore 4, 2) := by decide +kernel
theorem dX4_fitsMap_47 : decode cX4_fitsMap 47 = .ok (.iload_n 1, 1) := by decide +kernel
theorem dX4_fitsMap_48 : decode cX4_fitsMap 48 = .ok (.bipush 9, 2) := by decide +kernel
theorem dX4_fitsMap_50 : decode cX4_fitsMap 50 = .ok (.idiv, 1) := by decide +kernel
theorem dX4_fitsMap_51 : decode cX4_fitsMap 51 = .ok (.bipush 8, 2) := by decide +kernel
theorem dX4_fitsMap_53 : decode cX4_fitsMap 53 = .ok (.imul, 1) := by decide +kernel
theorem dX4_fitsMap_54 : decode cX4_fitsMap 54 = .ok (.iload_n 3, 1) := by decide +kernel
theorem dX4_fitsMap_55 : decode cX4_fitsMap 55 = .ok (.iadd, 1) := by decide +kernel
theorem dX4_fitsMap_56 : decode cX4_fitsMap 56 = .ok (.istore 5, 2) := by decide +kernel
theorem dX4_fitsMap_58 : decode cX4_fitsMap 58 = .ok (.iload 4, 2) := by decide +kernel
theorem dX4_fitsMap_60 : decode cX4_fitsMap 60 = .ok (.iconst (-1), 1) := by decide +kernel
theorem dX4_fitsMap_61 : decode cX4_fitsMap 61 = .ok (.if_icmp .eq 21, 3) := by decide +kernel
theorem dX4_fitsMap_64 : decode cX4_fitsMap 64 = .ok (.iload 5, 2) := by decide +kernel
theorem dX4_fitsMap_66 : decode cX4_fitsMap 66 = .ok (.iload_n 2, 1) := by decide +kernel
theorem dX4_fitsMap_67 : decode cX4_fitsMap 67 = .ok (.if_icmp .ne 11, 3) := by decide +kernel
theorem dX4_fitsMap_70 : decode cX4_fitsMap 70 = .ok (.iload 4, 2) := by decide +kernel
theorem dX4_fitsMap_72 : decode cX4_fitsMap 72 = .ok (.invokestatic 27, 3) := by decide +kernel
theorem dX4_fitsMap_75 : decode cX4_fitsMap 75 = .ok (.ifCond .ne 7, 3) := by decide +kernel
theorem dX4_fitsMap_78 : decode cX4_fitsMap 78 = .ok (.iconst 1, 1) := by decide +kernel
theorem dX4_fitsMap_79 : decode cX4_fitsMap 79 = .ok (.goto 4, 3) := by decide +kernel
theorem dX4_fitsMap_82 : decode cX4_fitsMap 82 = .ok (.iconst 0, 1) := by decide +kernel
theorem dX4_fitsMap_83 : decode cX4_fitsMap 83 = .ok (.ireturn, 1) := by decide +kernel
theorem dX4_kindOf_0 : decode cX4_kindOf 0 = .ok (.iload_n 0, 1) := by decide +kernel
theorem dX4_kindOf_1 : decode cX4_kindOf 1 = .ok (.bipush 46, 2) := by decide +kernel
theorem dX4_kindOf_3 : decode cX4_kindOf 3 = .ok (.if_icmp .ne 5, 3) := by decide +kernel
theorem dX4_kindOf_6 : decode cX4_kindOf 6 = .ok (.iconst 0, 1) := by decide +kernel
theorem dX4_kindOf_7 : decode cX4_kindOf 7 = .ok (.ireturn, 1) := by decide +kernel
theorem dX4_kindOf_8 : decode cX4_kindOf 8 = .ok (.iload_n 0, 1) := by decide +kernel
theorem dX4_kindOf_9 : decode cX4_kindOf 9 = .ok (.bipush 35, 2) := by decide +kernel
theorem dX4_kindOf_11 : decode cX4_kindOf 11 = .ok (.if_icmp .ne 5, 3) := by decide +kernel
theorem dX4_kindOf_14 : decode cX4_kindOf 14 = .ok (.iconst 1, 1) := by decide +kernel
theorem dX4_kindOf_15 : decode cX4_kindOf 15 = .ok (.ireturn, 1) := by decide +kernel
theorem dX4_kindOf_16 : decode cX4_kindOf 16 = .ok (.iload_n 0, 1) := by decide +kernel
theorem dX4_kindOf_17 : decode cX4_kindOf 17 = .ok (.bipush 61, 2) := by decide +kernel
theorem dX4_kindOf_19 : decode cX4_kindOf 19 = .ok (.if_icmp .ne 5, 3) := by decide +kernel
theorem dX4_kindOf_22 : decode cX4_kindOf 22 = .ok (.iconst 2, 1) := by decide +kernel
theorem dX4_kindOf_23 : decode cX4_kindOf 23 = .ok (.ireturn, 1) := by decide +kernel
theorem dX4_kindOf_24 : decode cX4_kindOf 24 = .ok (.iload_n 0, 1) := by decide +kernel
theorem dX4_kindOf_25 : decode cX4_kindOf 25 = .ok (.bipush 126, 2) := by decide +kernel
theorem dX4_kindOf_27 : decode cX4_kindOf 27 = .ok (.if_icmp .ne 7, 3) := by decide +kernel
theorem dX4_kindOf_30 : decode cX4_kindOf 30 = .ok (.iconst 3, 1) := by decide +kernel
theorem dX4_kindOf_31 : decode cX4_kindOf 31 = .ok (.goto 4, 3) := by decide +kernel
theorem dX4_kindOf_34 : decode cX4_kindOf 34 = .ok (.iconst (-1), 1) := by decide +kernel
theorem dX4_kindOf_35 : decode cX4_kindOf 35 = .ok (.ireturn, 1) := by decide +kernel
set_option maxRecDepth 20000 in
theorem ggX4_kindAt_X0_row : GoodIn wsX4_kindAt wsX0_row := goodIn_r _ [5] (by decide +kernel) (by decide +kernel)
set_option maxRecDepth 20000 in
theorem gX4_kindAt_X0_row : GoodIn wsX4_kindAt (va_wsS RX4 33 yX0_row wsX0_row) := goodIn_app (goodIn_of _ (by decide +kernel)) ggX4_kindAt_X0_row
set_option maxRecDepth 20000 in
theorem ggX4_kindAt_X0_column : GoodIn wsX4_kindAt wsX0_column := goodIn_r _ [8] (by decide +kernel) (by decide +kernel)
set_option maxRecDepth 20000 in
theorem gX4_kindAt_X0_column : GoodIn wsX4_kindAt (va_wsS RX4 37 yX0_column wsX0_column) := goodIn_app (goodIn_of _ (by decide +kernel)) ggX4_kindAt_X0_column
set_option maxRecDepth 20000 in
theorem ggX4_kindAt_X4_kindOf : GoodIn wsX4_kindAt wsX4_kindOf := goodIn_r _ [12] (by decide +kernel) (by decide +kernel)
set_option maxRecDepth 20000 in
theorem gX4_kindAt_X4_kindOf : GoodIn wsX4_kindAt (va_wsS RX4 23 yX4_kindOf wsX4_kindOf) := goodIn_app (goodIn_of _ (by decide +kernel)) ggX4_kindAt_X4_kindOf
theorem dX4_kindAt_0 : decode cX4_kindAt 0 = .ok (.aload_n 0, 1) := by decide +kernel
theorem dX4_kindAt_1 : decode cX4_kindAt 1 = .ok (.getfield 11, 3) := by decide +kernel
theorem dX4_kindAt_4 : decode cX4_kindAt 4 = .ok (.iload_n 1, 1) := by decide +kernel
theorem dX4_kindAt_5 : decode cX4_kindAt 5 = .ok (.invokestatic 33, 3) := by decide +kernel
theorem dX4_kindAt_8 : decode cX4_kindAt 8 = .ok (.bipush 9, 2) := by decide +kernel
theorem dX4_kindAt_10 : decode cX4_kindAt 10 = .ok (.imul, 1) := by decide +kernel
theorem dX4_kindAt_11 : decode cX4_kindAt 11 = .ok (.iload_n 1, 1) := by decide +kernel
theorem dX4_kindAt_12 : decode cX4_kindAt 12 = .ok (.invokestatic 37, 3) := by decide +kernel
theorem dX4_kindAt_15 : decode cX4_kindAt 15 = .ok (.iadd, 1) := by decide +kernel
theorem dX4_kindAt_16 : decode cX4_kindAt 16 = .ok (.caload, 1) := by decide +kernel
theorem dX4_kindAt_17 : decode cX4_kindAt 17 = .ok (.invokestatic 23, 3) := by decide +kernel
theorem dX4_kindAt_20 : decode cX4_kindAt 20 = .ok (.ireturn, 1) := by decide +kernel
theorem dX4_faultAsWalk_0 : decode cX4_faultAsWalk 0 = .ok (.iconst 0, 1) := by decide +kernel
theorem dX4_faultAsWalk_1 : decode cX4_faultAsWalk 1 = .ok (.istore_n 1, 1) := by decide +kernel
theorem dX4_faultAsWalk_2 : decode cX4_faultAsWalk 2 = .ok (.iload_n 1, 1) := by decide +kernel
theorem dX4_faultAsWalk_3 : decode cX4_faultAsWalk 3 = .ok (.aload_n 0, 1) := by decide +kernel
theorem dX4_faultAsWalk_4 : decode cX4_faultAsWalk 4 = .ok (.getfield 15, 3) := by decide +kernel
theorem dX4_faultAsWalk_7 : decode cX4_faultAsWalk 7 = .ok (.if_icmp .ge 33, 3) := by decide +kernel
theorem dX4_faultAsWalk_10 : decode cX4_faultAsWalk 10 = .ok (.aload_n 0, 1) := by decide +kernel
theorem dX4_faultAsWalk_11 : decode cX4_faultAsWalk 11 = .ok (.getfield 11, 3) := by decide +kernel
theorem dX4_faultAsWalk_14 : decode cX4_faultAsWalk 14 = .ok (.iload_n 1, 1) := by decide +kernel
theorem dX4_faultAsWalk_15 : decode cX4_faultAsWalk 15 = .ok (.caload, 1) := by decide +kernel
theorem dX4_faultAsWalk_16 : decode cX4_faultAsWalk 16 = .ok (.bipush 48, 2) := by decide +kernel
theorem dX4_faultAsWalk_18 : decode cX4_faultAsWalk 18 = .ok (.if_icmp .lt 14, 3) := by decide +kernel
theorem dX4_faultAsWalk_21 : decode cX4_faultAsWalk 21 = .ok (.aload_n 0, 1) := by decide +kernel
theorem dX4_faultAsWalk_22 : decode cX4_faultAsWalk 22 = .ok (.getfield 11, 3) := by decide +kernel
theorem dX4_faultAsWalk_25 : decode cX4_faultAsWalk 25 = .ok (.iload_n 1, 1) := by decide +kernel
theorem dX4_faultAsWalk_26 : decode cX4_faultAsWalk 26 = .ok (.caload, 1) := by decide +kernel
theorem dX4_faultAsWalk_27 : decode cX4_faultAsWalk 27 = .ok (.bipush 51, 2) := by decide +kernel
theorem dX4_faultAsWalk_29 : decode cX4_faultAsWalk 29 = .ok (.if_icmp .le 5, 3) := by decide +kernel
theorem dX4_faultAsWalk_32 : decode cX4_faultAsWalk 32 = .ok (.iload_n 1, 1) := by decide +kernel
theorem dX4_faultAsWalk_33 : decode cX4_faultAsWalk 33 = .ok (.ireturn, 1) := by decide +kernel
theorem dX4_faultAsWalk_34 : decode cX4_faultAsWalk 34 = .ok (.iinc 1 1, 3) := by decide +kernel
theorem dX4_faultAsWalk_37 : decode cX4_faultAsWalk 37 = .ok (.goto (-35), 3) := by decide +kernel
theorem dX4_faultAsWalk_40 : decode cX4_faultAsWalk 40 = .ok (.aload_n 0, 1) := by decide +kernel
theorem dX4_faultAsWalk_41 : decode cX4_faultAsWalk 41 = .ok (.getfield 15, 3) := by decide +kernel
theorem dX4_faultAsWalk_44 : decode cX4_faultAsWalk 44 = .ok (.ifCond .ne 7, 3) := by decide +kernel
theorem dX4_faultAsWalk_47 : decode cX4_faultAsWalk 47 = .ok (.iconst 0, 1) := by decide +kernel
theorem dX4_faultAsWalk_48 : decode cX4_faultAsWalk 48 = .ok (.goto 5, 3) := by decide +kernel
theorem dX4_faultAsWalk_51 : decode cX4_faultAsWalk 51 = .ok (.bipush (-4), 2) := by decide +kernel
theorem dX4_faultAsWalk_53 : decode cX4_faultAsWalk 53 = .ok (.ireturn, 1) := by decide +kernel
theorem dX4_directionAt_0 : decode cX4_directionAt 0 = .ok (.aload_n 0, 1) := by decide +kernel
theorem dX4_directionAt_1 : decode cX4_directionAt 1 = .ok (.getfield 11, 3) := by decide +kernel
theorem dX4_directionAt_4 : decode cX4_directionAt 4 = .ok (.iload_n 1, 1) := by decide +kernel
theorem dX4_directionAt_5 : decode cX4_directionAt 5 = .ok (.caload, 1) := by decide +kernel
theorem dX4_directionAt_6 : decode cX4_directionAt 6 = .ok (.bipush 48, 2) := by decide +kernel
theorem dX4_directionAt_8 : decode cX4_directionAt 8 = .ok (.isub, 1) := by decide +kernel
theorem dX4_directionAt_9 : decode cX4_directionAt 9 = .ok (.ireturn, 1) := by decide +kernel
theorem dX5_init_0 : decode cX5_init 0 = .ok (.aload_n 0, 1) := by decide +kernel
theorem dX5_init_1 : decode cX5_init 1 = .ok (.invokespecial 3, 3) := by decide +kernel
theorem dX5_init_4 : decode cX5_init 4 = .ok (.aload_n 0, 1) := by decide +kernel
theorem dX5_init_5 : decode cX5_init 5 = .ok (.bipush 64, 2) := by decide +kernel
theorem dX5_init_7 : decode cX5_init 7 = .ok (.newarray .int, 2) := by decide +kernel
theorem dX5_init_9 : decode cX5_init 9 = .ok (.putfield 9, 3) := by decide +kernel
theorem dX5_init_12 : decode cX5_init 12 = .ok (.aload_n 0, 1) := by decide +kernel
theorem dX5_init_13 : decode cX5_init 13 = .ok (.bipush 6, 2) := by decide +kernel
theorem dX5_init_15 : decode cX5_init 15 = .ok (.newarray .int, 2) := by decide +kernel
theorem dX5_init_17 : decode cX5_init 17 = .ok (.putfield 15, 3) := by decide +kernel
theorem dX5_init_20 : decode cX5_init 20 = .ok (.aload_n 0, 1) := by decide +kernel
theorem dX5_init_21 : decode cX5_init 21 = .ok (.bipush 6, 2) := by decide +kernel
theorem dX5_init_23 : decode cX5_init 23 = .ok (.newarray .int, 2) := by decide +kernel
theorem dX5_init_25 : decode cX5_init 25 = .ok (.putfield 18, 3) := by decide +kernel
theorem dX5_init_28 : decode cX5_init 28 = .ok (.aload_n 0, 1) := by decide +kernel
theorem dX5_init_29 : decode cX5_init 29 = .ok (.bipush 6, 2) := by decide +kernel
theorem dX5_init_31 : decode cX5_init 31 = .ok (.newarray .int, 2) := by decide +kernel
theorem dX5_init_33 : decode cX5_init 33 = .ok (.putfield 21, 3) := by decide +kernel
theorem dX5_init_36 : decode cX5_init 36 = .ok (.aload_n 0, 1) := by decide +kernel
theorem dX5_init_37 : decode cX5_init 37 = .ok (.iconst 3, 1) := by decide +kernel
theorem dX5_init_38 : decode cX5_init 38 = .ok (.putfield 24, 3) := by decide +kernel
theorem dX5_init_41 : decode cX5_init 41 = .ok (.aload_n 0, 1) := by decide +kernel
theorem dX5_init_42 : decode cX5_init 42 = .ok (.iconst 1, 1) := by decide +kernel
theorem dX5_init_43 : decode cX5_init 43 = .ok (.putfield 28, 3) := by decide +kernel
theorem dX5_init_46 : decode cX5_init 46 = .ok (.return_, 1) := by decide +kernel
theorem dX5_copyFrom_0 : decode cX5_copyFrom 0 = .ok (.aload_n 1, 1) := by decide +kernel
theorem dX5_copyFrom_1 : decode cX5_copyFrom 1 = .ok (.getfield 9, 3) := by decide +kernel
theorem dX5_copyFrom_4 : decode cX5_copyFrom 4 = .ok (.iconst 0, 1) := by decide +kernel
theorem dX5_copyFrom_5 : decode cX5_copyFrom 5 = .ok (.aload_n 0, 1) := by decide +kernel
theorem dX5_copyFrom_6 : decode cX5_copyFrom 6 = .ok (.getfield 9, 3) := by decide +kernel
theorem dX5_copyFrom_9 : decode cX5_copyFrom 9 = .ok (.iconst 0, 1) := by decide +kernel
theorem dX5_copyFrom_10 : decode cX5_copyFrom 10 = .ok (.bipush 64, 2) := by decide +kernel
theorem dX5_copyFrom_12 : decode cX5_copyFrom 12 = .ok (.invokestatic 31, 3) := by decide +kernel
theorem dX5_copyFrom_15 : decode cX5_copyFrom 15 = .ok (.aload_n 1, 1) := by decide +kernel
theorem dX5_copyFrom_16 : decode cX5_copyFrom 16 = .ok (.getfield 15, 3) := by decide +kernel
theorem dX5_copyFrom_19 : decode cX5_copyFrom 19 = .ok (.iconst 0, 1) := by decide +kernel
theorem dX5_copyFrom_20 : decode cX5_copyFrom 20 = .ok (.aload_n 0, 1) := by decide +kernel
theorem dX5_copyFrom_21 : decode cX5_copyFrom 21 = .ok (.getfield 15, 3) := by decide +kernel
theorem dX5_copyFrom_24 : decode cX5_copyFrom 24 = .ok (.iconst 0, 1) := by decide +kernel
theorem dX5_copyFrom_25 : decode cX5_copyFrom 25 = .ok (.bipush 6, 2) := by decide +kernel
theorem dX5_copyFrom_27 : decode cX5_copyFrom 27 = .ok (.invokestatic 31, 3) := by decide +kernel
theorem dX5_copyFrom_30 : decode cX5_copyFrom 30 = .ok (.aload_n 1, 1) := by decide +kernel
theorem dX5_copyFrom_31 : decode cX5_copyFrom 31 = .ok (.getfield 18, 3) := by decide +kernel
theorem dX5_copyFrom_34 : decode cX5_copyFrom 34 = .ok (.iconst 0, 1) := by decide +kernel
theorem dX5_copyFrom_35 : decode cX5_copyFrom 35 = .ok (.aload_n 0, 1) := by decide +kernel
theorem dX5_copyFrom_36 : decode cX5_copyFrom 36 = .ok (.getfield 18, 3) := by decide +kernel
theorem dX5_copyFrom_39 : decode cX5_copyFrom 39 = .ok (.iconst 0, 1) := by decide +kernel
theorem dX5_copyFrom_40 : decode cX5_copyFrom 40 = .ok (.bipush 6, 2) := by decide +kernel
theorem dX5_copyFrom_42 : decode cX5_copyFrom 42 = .ok (.invokestatic 31, 3) := by decide +kernel
theorem dX5_copyFrom_45 : decode cX5_copyFrom 45 = .ok (.aload_n 1, 1) := by decide +kernel
theorem dX5_copyFrom_46 : decode cX5_copyFrom 46 = .ok (.getfield 21, 3) := by decide +kernel
theorem dX5_copyFrom_49 : decode cX5_copyFrom 49 = .ok (.iconst 0, 1) := by decide +kernel
theorem dX5_copyFrom_50 : decode cX5_copyFrom 50 = .ok (.aload_n 0, 1) := by decide +kernel
theorem dX5_copyFrom_51 : decode cX5_copyFrom 51 = .ok (.getfield 21, 3) := by decide +kernel
theorem dX5_copyFrom_54 : decode cX5_copyFrom 54 = .ok (.iconst 0, 1) := by decide +kernel
theorem dX5_copyFrom_55 : decode cX5_copyFrom 55 = .ok (.bipush 6, 2) := by decide +kernel
theorem dX5_copyFrom_57 : decode cX5_copyFrom 57 = .ok (.invokestatic 31, 3) := by decide +kernel
theorem dX5_copyFrom_60 : decode cX5_copyFrom 60 = .ok (.aload_n 0, 1) := by decide +kernel
theorem dX5_copyFrom_61 : decode cX5_copyFrom 61 = .ok (.aload_n 1, 1) := by decide +kernel
theorem dX5_copyFrom_62 : decode cX5_copyFrom 62 = .ok (.getfield 37, 3) := by decide +kernel
theorem dX5_copyFrom_65 : decode cX5_copyFrom 65 = .ok (.putfield 37, 3) := by decide +kernel
theorem dX5_copyFrom_68 : decode cX5_copyFrom 68 = .ok (.aload_n 0, 1) := by decide +kernel
theorem dX5_copyFrom_69 : decode cX5_copyFrom 69 = .ok (.aload_n 1, 1) := by decide +kernel
theorem dX5_copyFrom_70 : decode cX5_copyFrom 70 = .ok (.getfield 40, 3) := by decide +kernel
theorem dX5_copyFrom_73 : decode cX5_copyFrom 73 = .ok (.putfield 40, 3) := by decide +kernel
theorem dX5_copyFrom_76 : decode cX5_copyFrom 76 = .ok (.aload_n 0, 1) := by decide +kernel
theorem dX5_copyFrom_77 : decode cX5_copyFrom 77 = .ok (.aload_n 1, 1) := by decide +kernel
theorem dX5_copyFrom_78 : decode cX5_copyFrom 78 = .ok (.getfield 43, 3) := by decide +kernel
theorem dX5_copyFrom_81 : decode cX5_copyFrom 81 = .ok (.putfield 43, 3) := by decide +kernel
theorem dX5_copyFrom_84 : decode cX5_copyFrom 84 = .ok (.aload_n 0, 1) := by decide +kernel
theorem dX5_copyFrom_85 : decode cX5_copyFrom 85 = .ok (.aload_n 1, 1) := by decide +kernel
theorem dX5_copyFrom_86 : decode cX5_copyFrom 86 = .ok (.getfield 24, 3) := by decide +kernel
theorem dX5_copyFrom_89 : decode cX5_copyFrom 89 = .ok (.putfield 24, 3) := by decide +kernel
theorem dX5_copyFrom_92 : decode cX5_copyFrom 92 = .ok (.aload_n 0, 1) := by decide +kernel
theorem dX5_copyFrom_93 : decode cX5_copyFrom 93 = .ok (.aload_n 1, 1) := by decide +kernel
theorem dX5_copyFrom_94 : decode cX5_copyFrom 94 = .ok (.getfield 28, 3) := by decide +kernel
theorem dX5_copyFrom_97 : decode cX5_copyFrom 97 = .ok (.putfield 28, 3) := by decide +kernel
theorem dX5_copyFrom_100 : decode cX5_copyFrom 100 = .ok (.aload_n 0, 1) := by decide +kernel
theorem dX5_copyFrom_101 : decode cX5_copyFrom 101 = .ok (.aload_n 1, 1) := by decide +kernel
theorem dX5_copyFrom_102 : decode cX5_copyFrom 102 = .ok (.getfield 46, 3) := by decide +kernel
theorem dX5_copyFrom_105 : decode cX5_copyFrom 105 = .ok (.putfield 46, 3) := by decide +kernel
theorem dX5_copyFrom_108 : decode cX5_copyFrom 108 = .ok (.return_, 1) := by decide +kernel
set_option maxRecDepth 20000 in
theorem ggX5_wouldTrapWalker_X0_stopsFeet : GoodIn wsX5_wouldTrapWalker wsX0_stopsFeet := goodIn_r _ [5] (by decide +kernel) (by decide +kernel)
set_option maxRecDepth 20000 in
theorem gX5_wouldTrapWalker_X0_stopsFeet : GoodIn wsX5_wouldTrapWalker (va_wsS RX5 50 yX0_stopsFeet wsX0_stopsFeet) := goodIn_app (goodIn_of _ (by decide +kernel)) ggX5_wouldTrapWalker_X0_stopsFeet
theorem dX5_wouldTrapWalker_0 : decode cX5_wouldTrapWalker 0 = .ok (.iload_n 1, 1) := by decide +kernel
theorem dX5_wouldTrapWalker_1 : decode cX5_wouldTrapWalker 1 = .ok (.aload_n 0, 1) := by decide +kernel
theorem dX5_wouldTrapWalker_2 : decode cX5_wouldTrapWalker 2 = .ok (.getfield 40, 3) := by decide +kernel
theorem dX5_wouldTrapWalker_5 : decode cX5_wouldTrapWalker 5 = .ok (.if_icmp .ne 14, 3) := by decide +kernel
theorem dX5_wouldTrapWalker_8 : decode cX5_wouldTrapWalker 8 = .ok (.iload_n 2, 1) := by decide +kernel
theorem dX5_wouldTrapWalker_9 : decode cX5_wouldTrapWalker 9 = .ok (.invokestatic 50, 3) := by decide +kernel
theorem dX5_wouldTrapWalker_12 : decode cX5_wouldTrapWalker 12 = .ok (.ifCond .eq 7, 3) := by decide +kernel
theorem dX5_wouldTrapWalker_15 : decode cX5_wouldTrapWalker 15 = .ok (.iconst 1, 1) := by decide +kernel
theorem dX5_wouldTrapWalker_16 : decode cX5_wouldTrapWalker 16 = .ok (.goto 4, 3) := by decide +kernel
theorem dX5_wouldTrapWalker_19 : decode cX5_wouldTrapWalker 19 = .ok (.iconst 0, 1) := by decide +kernel
theorem dX5_wouldTrapWalker_20 : decode cX5_wouldTrapWalker 20 = .ok (.ireturn, 1) := by decide +kernel
set_option maxRecDepth 20000 in
theorem ggX5_changeKind_X0_stopsLight : GoodIn wsX5_changeKind wsX0_stopsLight := goodIn_r _ [5] (by decide +kernel) (by decide +kernel)
set_option maxRecDepth 20000 in
theorem gX5_changeKind_X0_stopsLight : GoodIn wsX5_changeKind (va_wsS RX5 56 yX0_stopsLight wsX0_stopsLight) := goodIn_app (goodIn_of _ (by decide +kernel)) ggX5_changeKind_X0_stopsLight
set_option maxRecDepth 20000 in
theorem ggX5_changeKind_X5_lampIn : GoodIn wsX5_changeKind wsX5_lampIn := goodIn_r _ [10, 11, 12, 23, 24, 25, 26, 27, 28, 29, 30, 31, 32] (by decide +kernel) (by decide +kernel)
set_option maxRecDepth 20000 in
theorem gX5_changeKind_X5_lampIn : GoodIn wsX5_changeKind (wsV RX5 59 RX5 yX5_lampIn wsX5_lampIn) := goodIn_app (goodIn_of _ (by decide +kernel)) ggX5_changeKind_X5_lampIn
set_option maxRecDepth 20000 in
theorem ggX5_changeKind_X5_removeLamp : GoodIn wsX5_changeKind wsX5_removeLamp := goodIn_r _ [16, 11, 12, 17, 18, 19, 20, 21, 9, 22, 23, 24, 25, 26, 27, 28, 29, 30, 31, 32] (by decide +kernel) (by decide +kernel)
set_option maxRecDepth 20000 in
theorem gX5_changeKind_X5_removeLamp : GoodIn wsX5_changeKind (wsV RX5 63 RX5 yX5_removeLamp wsX5_removeLamp) := goodIn_app (goodIn_of _ (by decide +kernel)) ggX5_changeKind_X5_removeLamp
theorem dX5_changeKind_0 : decode cX5_changeKind 0 = .ok (.aload_n 0, 1) := by decide +kernel
theorem dX5_changeKind_1 : decode cX5_changeKind 1 = .ok (.getfield 9, 3) := by decide +kernel
theorem dX5_changeKind_4 : decode cX5_changeKind 4 = .ok (.iload_n 1, 1) := by decide +kernel
theorem dX5_changeKind_5 : decode cX5_changeKind 5 = .ok (.iload_n 2, 1) := by decide +kernel
theorem dX5_changeKind_6 : decode cX5_changeKind 6 = .ok (.iastore, 1) := by decide +kernel
theorem dX5_changeKind_7 : decode cX5_changeKind 7 = .ok (.iload_n 2, 1) := by decide +kernel
theorem dX5_changeKind_8 : decode cX5_changeKind 8 = .ok (.invokestatic 56, 3) := by decide +kernel
theorem dX5_changeKind_11 : decode cX5_changeKind 11 = .ok (.ifCond .eq 12, 3) := by decide +kernel
theorem dX5_changeKind_14 : decode cX5_changeKind 14 = .ok (.aload_n 0, 1) := by decide +kernel
theorem dX5_changeKind_15 : decode cX5_changeKind 15 = .ok (.aload_n 0, 1) := by decide +kernel
theorem dX5_changeKind_16 : decode cX5_changeKind 16 = .ok (.iload_n 1, 1) := by decide +kernel
theorem dX5_changeKind_17 : decode cX5_changeKind 17 = .ok (.invokevirtual 59, 3) := by decide +kernel
theorem dX5_changeKind_20 : decode cX5_changeKind 20 = .ok (.invokevirtual 63, 3) := by decide +kernel
theorem dX5_changeKind_23 : decode cX5_changeKind 23 = .ok (.return_, 1) := by decide +kernel
theorem dX5_cellsOfKind_0 : decode cX5_cellsOfKind 0 = .ok (.iconst 0, 1) := by decide +kernel
theorem dX5_cellsOfKind_1 : decode cX5_cellsOfKind 1 = .ok (.istore_n 2, 1) := by decide +kernel
theorem dX5_cellsOfKind_2 : decode cX5_cellsOfKind 2 = .ok (.iconst 0, 1) := by decide +kernel
theorem dX5_cellsOfKind_3 : decode cX5_cellsOfKind 3 = .ok (.istore_n 3, 1) := by decide +kernel
theorem dX5_cellsOfKind_4 : decode cX5_cellsOfKind 4 = .ok (.iload_n 3, 1) := by decide +kernel
theorem dX5_cellsOfKind_5 : decode cX5_cellsOfKind 5 = .ok (.bipush 64, 2) := by decide +kernel
theorem dX5_cellsOfKind_7 : decode cX5_cellsOfKind 7 = .ok (.if_icmp .ge 22, 3) := by decide +kernel
theorem dX5_cellsOfKind_10 : decode cX5_cellsOfKind 10 = .ok (.aload_n 0, 1) := by decide +kernel
theorem dX5_cellsOfKind_11 : decode cX5_cellsOfKind 11 = .ok (.getfield 9, 3) := by decide +kernel
theorem dX5_cellsOfKind_14 : decode cX5_cellsOfKind 14 = .ok (.iload_n 3, 1) := by decide +kernel
theorem dX5_cellsOfKind_15 : decode cX5_cellsOfKind 15 = .ok (.iaload, 1) := by decide +kernel
theorem dX5_cellsOfKind_16 : decode cX5_cellsOfKind 16 = .ok (.iload_n 1, 1) := by decide +kernel
theorem dX5_cellsOfKind_17 : decode cX5_cellsOfKind 17 = .ok (.if_icmp .ne 6, 3) := by decide +kernel
theorem dX5_cellsOfKind_20 : decode cX5_cellsOfKind 20 = .ok (.iinc 2 1, 3) := by decide +kernel
theorem dX5_cellsOfKind_23 : decode cX5_cellsOfKind 23 = .ok (.iinc 3 1, 3) := by decide +kernel
theorem dX5_cellsOfKind_26 : decode cX5_cellsOfKind 26 = .ok (.goto (-22), 3) := by decide +kernel
theorem dX5_cellsOfKind_29 : decode cX5_cellsOfKind 29 = .ok (.iload_n 2, 1) := by decide +kernel
theorem dX5_cellsOfKind_30 : decode cX5_cellsOfKind 30 = .ok (.ireturn, 1) := by decide +kernel
theorem dX5_isLamp_0 : decode cX5_isLamp 0 = .ok (.iload_n 1, 1) := by decide +kernel
theorem dX5_isLamp_1 : decode cX5_isLamp 1 = .ok (.ifCond .lt 15, 3) := by decide +kernel
theorem dX5_isLamp_4 : decode cX5_isLamp 4 = .ok (.iload_n 1, 1) := by decide +kernel
theorem dX5_isLamp_5 : decode cX5_isLamp 5 = .ok (.aload_n 0, 1) := by decide +kernel
theorem dX5_isLamp_6 : decode cX5_isLamp 6 = .ok (.getfield 37, 3) := by decide +kernel
theorem dX5_isLamp_9 : decode cX5_isLamp 9 = .ok (.if_icmp .ge 7, 3) := by decide +kernel
theorem dX5_isLamp_12 : decode cX5_isLamp 12 = .ok (.iconst 1, 1) := by decide +kernel
theorem dX5_isLamp_13 : decode cX5_isLamp 13 = .ok (.goto 4, 3) := by decide +kernel
theorem dX5_isLamp_16 : decode cX5_isLamp 16 = .ok (.iconst 0, 1) := by decide +kernel
theorem dX5_isLamp_17 : decode cX5_isLamp 17 = .ok (.ireturn, 1) := by decide +kernel
theorem dX5_lampIn_0 : decode cX5_lampIn 0 = .ok (.iconst 0, 1) := by decide +kernel
theorem dX5_lampIn_1 : decode cX5_lampIn 1 = .ok (.istore_n 2, 1) := by decide +kernel
theorem dX5_lampIn_2 : decode cX5_lampIn 2 = .ok (.iload_n 2, 1) := by decide +kernel
theorem dX5_lampIn_3 : decode cX5_lampIn 3 = .ok (.aload_n 0, 1) := by decide +kernel
theorem dX5_lampIn_4 : decode cX5_lampIn 4 = .ok (.getfield 37, 3) := by decide +kernel
theorem dX5_lampIn_7 : decode cX5_lampIn 7 = .ok (.if_icmp .ge 21, 3) := by decide +kernel
theorem dX5_lampIn_10 : decode cX5_lampIn 10 = .ok (.aload_n 0, 1) := by decide +kernel
theorem dX5_lampIn_11 : decode cX5_lampIn 11 = .ok (.getfield 15, 3) := by decide +kernel
theorem dX5_lampIn_14 : decode cX5_lampIn 14 = .ok (.iload_n 2, 1) := by decide +kernel
theorem dX5_lampIn_15 : decode cX5_lampIn 15 = .ok (.iaload, 1) := by decide +kernel
theorem dX5_lampIn_16 : decode cX5_lampIn 16 = .ok (.iload_n 1, 1) := by decide +kernel
theorem dX5_lampIn_17 : decode cX5_lampIn 17 = .ok (.if_icmp .ne 5, 3) := by decide +kernel
theorem dX5_lampIn_20 : decode cX5_lampIn 20 = .ok (.iload_n 2, 1) := by decide +kernel
theorem dX5_lampIn_21 : decode cX5_lampIn 21 = .ok (.ireturn, 1) := by decide +kernel
theorem dX5_lampIn_22 : decode cX5_lampIn 22 = .ok (.iinc 2 1, 3) := by decide +kernel
theorem dX5_lampIn_25 : decode cX5_lampIn 25 = .ok (.goto (-23), 3) := by decide +kernel
theorem dX5_lampIn_28 : decode cX5_lampIn 28 = .ok (.bipush (-4), 2) := by decide +kernel
theorem dX5_lampIn_30 : decode cX5_lampIn 30 = .ok (.ireturn, 1) := by decide +kernel
set_option maxRecDepth 20000 in
theorem ggX5_hasRoomForLamp_X0_stopsLight : GoodIn wsX5_hasRoomForLamp wsX0_stopsLight := goodIn_r _ [5] (by decide +kernel) (by decide +kernel)
set_option maxRecDepth 20000 in
theorem gX5_hasRoomForLamp_X0_stopsLight : GoodIn wsX5_hasRoomForLamp (va_wsS RX5 56 yX0_stopsLight wsX0_stopsLight) := goodIn_app (goodIn_of _ (by decide +kernel)) ggX5_hasRoomForLamp_X0_stopsLight
set_option maxRecDepth 20000 in
theorem ggX5_hasRoomForLamp_X5_lampIn : GoodIn wsX5_hasRoomForLamp wsX5_lampIn := goodIn_r _ [10, 11, 12, 13, 14, 15, 16, 17, 18, 19, 20, 21, 22] (by decide +kernel) (by decide +kernel)
set_option maxRecDepth 20000 in
theorem gX5_hasRoomForLamp_X5_lampIn : GoodIn wsX5_hasRoomForLamp (wsV RX5 59 RX5 yX5_lampIn wsX5_lampIn) := goodIn_app (goodIn_of _ (by decide +kernel)) ggX5_hasRoomForLamp_X5_lampIn
theorem dX5_hasRoomForLamp_0 : decode cX5_hasRoomForLamp 0 = .ok (.aload_n 0, 1) := by decide +kernel
theorem dX5_hasRoomForLamp_1 : decode cX5_hasRoomForLamp 1 = .ok (.getfield 9, 3) := by decide +kernel
theorem dX5_hasRoomForLamp_4 : decode cX5_hasRoomForLamp 4 = .ok (.iload_n 1, 1) := by decide +kernel
theorem dX5_hasRoomForLamp_5 : decode cX5_hasRoomForLamp 5 = .ok (.iaload, 1) := by decide +kernel
theorem dX5_hasRoomForLamp_6 : decode cX5_hasRoomForLamp 6 = .ok (.invokestatic 56, 3) := by decide +kernel
theorem dX5_hasRoomForLamp_9 : decode cX5_hasRoomForLamp 9 = .ok (.ifCond .ne 17, 3) := by decide +kernel
theorem dX5_hasRoomForLamp_12 : decode cX5_hasRoomForLamp 12 = .ok (.aload_n 0, 1) := by decide +kernel
theorem dX5_hasRoomForLamp_13 : decode cX5_hasRoomForLamp 13 = .ok (.iload_n 1, 1) := by decide +kernel
theorem dX5_hasRoomForLamp_14 : decode cX5_hasRoomForLamp 14 = .ok (.invokevirtual 59, 3) := by decide +kernel
theorem dX5_hasRoomForLamp_17 : decode cX5_hasRoomForLamp 17 = .ok (.bipush (-4), 2) := by decide +kernel
theorem dX5_hasRoomForLamp_19 : decode cX5_hasRoomForLamp 19 = .ok (.if_icmp .ne 7, 3) := by decide +kernel
theorem dX5_hasRoomForLamp_22 : decode cX5_hasRoomForLamp 22 = .ok (.iconst 1, 1) := by decide +kernel
theorem dX5_hasRoomForLamp_23 : decode cX5_hasRoomForLamp 23 = .ok (.goto 4, 3) := by decide +kernel
theorem dX5_hasRoomForLamp_26 : decode cX5_hasRoomForLamp 26 = .ok (.iconst 0, 1) := by decide +kernel
theorem dX5_hasRoomForLamp_27 : decode cX5_hasRoomForLamp 27 = .ok (.ireturn, 1) := by decide +kernel
theorem dX5_addLamp_0 : decode cX5_addLamp 0 = .ok (.aload_n 0, 1) := by decide +kernel
theorem dX5_addLamp_1 : decode cX5_addLamp 1 = .ok (.getfield 37, 3) := by decide +kernel
theorem dX5_addLamp_4 : decode cX5_addLamp 4 = .ok (.bipush 6, 2) := by decide +kernel
theorem dX5_addLamp_6 : decode cX5_addLamp 6 = .ok (.if_icmp .lt 4, 3) := by decide +kernel
theorem dX5_addLamp_9 : decode cX5_addLamp 9 = .ok (.return_, 1) := by decide +kernel
theorem dX5_addLamp_10 : decode cX5_addLamp 10 = .ok (.aload_n 0, 1) := by decide +kernel
theorem dX5_addLamp_11 : decode cX5_addLamp 11 = .ok (.getfield 15, 3) := by decide +kernel
theorem dX5_addLamp_14 : decode cX5_addLamp 14 = .ok (.aload_n 0, 1) := by decide +kernel
theorem dX5_addLamp_15 : decode cX5_addLamp 15 = .ok (.getfield 37, 3) := by decide +kernel
theorem dX5_addLamp_18 : decode cX5_addLamp 18 = .ok (.iload_n 1, 1) := by decide +kernel
theorem dX5_addLamp_19 : decode cX5_addLamp 19 = .ok (.iastore, 1) := by decide +kernel
theorem dX5_addLamp_20 : decode cX5_addLamp 20 = .ok (.aload_n 0, 1) := by decide +kernel
theorem dX5_addLamp_21 : decode cX5_addLamp 21 = .ok (.getfield 18, 3) := by decide +kernel
theorem dX5_addLamp_24 : decode cX5_addLamp 24 = .ok (.aload_n 0, 1) := by decide +kernel
theorem dX5_addLamp_25 : decode cX5_addLamp 25 = .ok (.getfield 37, 3) := by decide +kernel
theorem dX5_addLamp_28 : decode cX5_addLamp 28 = .ok (.iload_n 2, 1) := by decide +kernel
theorem dX5_addLamp_29 : decode cX5_addLamp 29 = .ok (.iastore, 1) := by decide +kernel
theorem dX5_addLamp_30 : decode cX5_addLamp 30 = .ok (.aload_n 0, 1) := by decide +kernel
theorem dX5_addLamp_31 : decode cX5_addLamp 31 = .ok (.getfield 21, 3) := by decide +kernel
theorem dX5_addLamp_34 : decode cX5_addLamp 34 = .ok (.aload_n 0, 1) := by decide +kernel
theorem dX5_addLamp_35 : decode cX5_addLamp 35 = .ok (.getfield 37, 3) := by decide +kernel
theorem dX5_addLamp_38 : decode cX5_addLamp 38 = .ok (.iload_n 3, 1) := by decide +kernel
theorem dX5_addLamp_39 : decode cX5_addLamp 39 = .ok (.iastore, 1) := by decide +kernel
theorem dX5_addLamp_40 : decode cX5_addLamp 40 = .ok (.aload_n 0, 1) := by decide +kernel
theorem dX5_addLamp_41 : decode cX5_addLamp 41 = .ok (.dup, 1) := by decide +kernel
theorem dX5_addLamp_42 : decode cX5_addLamp 42 = .ok (.getfield 37, 3) := by decide +kernel
theorem dX5_addLamp_45 : decode cX5_addLamp 45 = .ok (.iconst 1, 1) := by decide +kernel
theorem dX5_addLamp_46 : decode cX5_addLamp 46 = .ok (.iadd, 1) := by decide +kernel
theorem dX5_addLamp_47 : decode cX5_addLamp 47 = .ok (.putfield 37, 3) := by decide +kernel
theorem dX5_addLamp_50 : decode cX5_addLamp 50 = .ok (.return_, 1) := by decide +kernel
set_option maxRecDepth 20000 in
theorem ggX5_removeLamp_X5_isLamp : GoodIn wsX5_removeLamp wsX5_isLamp := goodIn_r _ [9, 1, 10, 11, 12, 13, 14, 15, 16, 17, 18, 19] (by decide +kernel) (by decide +kernel)
set_option maxRecDepth 20000 in
theorem gX5_removeLamp_X5_isLamp : GoodIn wsX5_removeLamp (wsV RX5 67 RX5 yX5_isLamp wsX5_isLamp) := goodIn_app (goodIn_of _ (by decide +kernel)) ggX5_removeLamp_X5_isLamp
theorem dX5_removeLamp_0 : decode cX5_removeLamp 0 = .ok (.aload_n 0, 1) := by decide +kernel
theorem dX5_removeLamp_1 : decode cX5_removeLamp 1 = .ok (.iload_n 1, 1) := by decide +kernel
theorem dX5_removeLamp_2 : decode cX5_removeLamp 2 = .ok (.invokevirtual 67, 3) := by decide +kernel
theorem dX5_removeLamp_5 : decode cX5_removeLamp 5 = .ok (.ifCond .ne 4, 3) := by decide +kernel
theorem dX5_removeLamp_8 : decode cX5_removeLamp 8 = .ok (.return_, 1) := by decide +kernel
theorem dX5_removeLamp_9 : decode cX5_removeLamp 9 = .ok (.iload_n 1, 1) := by decide +kernel
theorem dX5_removeLamp_10 : decode cX5_removeLamp 10 = .ok (.iconst 1, 1) := by decide +kernel
theorem dX5_removeLamp_11 : decode cX5_removeLamp 11 = .ok (.iadd, 1) := by decide +kernel
theorem dX5_removeLamp_12 : decode cX5_removeLamp 12 = .ok (.istore_n 2, 1) := by decide +kernel
theorem dX5_removeLamp_13 : decode cX5_removeLamp 13 = .ok (.iload_n 2, 1) := by decide +kernel
theorem dX5_removeLamp_14 : decode cX5_removeLamp 14 = .ok (.aload_n 0, 1) := by decide +kernel
theorem dX5_removeLamp_15 : decode cX5_removeLamp 15 = .ok (.getfield 37, 3) := by decide +kernel
theorem dX5_removeLamp_18 : decode cX5_removeLamp 18 = .ok (.if_icmp .ge 51, 3) := by decide +kernel
theorem dX5_removeLamp_21 : decode cX5_removeLamp 21 = .ok (.aload_n 0, 1) := by decide +kernel
theorem dX5_removeLamp_22 : decode cX5_removeLamp 22 = .ok (.getfield 15, 3) := by decide +kernel
theorem dX5_removeLamp_25 : decode cX5_removeLamp 25 = .ok (.iload_n 2, 1) := by decide +kernel
theorem dX5_removeLamp_26 : decode cX5_removeLamp 26 = .ok (.iconst 1, 1) := by decide +kernel
theorem dX5_removeLamp_27 : decode cX5_removeLamp 27 = .ok (.isub, 1) := by decide +kernel
theorem dX5_removeLamp_28 : decode cX5_removeLamp 28 = .ok (.aload_n 0, 1) := by decide +kernel
theorem dX5_removeLamp_29 : decode cX5_removeLamp 29 = .ok (.getfield 15, 3) := by decide +kernel
theorem dX5_removeLamp_32 : decode cX5_removeLamp 32 = .ok (.iload_n 2, 1) := by decide +kernel
theorem dX5_removeLamp_33 : decode cX5_removeLamp 33 = .ok (.iaload, 1) := by decide +kernel
theorem dX5_removeLamp_34 : decode cX5_removeLamp 34 = .ok (.iastore, 1) := by decide +kernel
theorem dX5_removeLamp_35 : decode cX5_removeLamp 35 = .ok (.aload_n 0, 1) := by decide +kernel
theorem dX5_removeLamp_36 : decode cX5_removeLamp 36 = .ok (.getfield 18, 3) := by decide +kernel
theorem dX5_removeLamp_39 : decode cX5_removeLamp 39 = .ok (.iload_n 2, 1) := by decide +kernel
theorem dX5_removeLamp_40 : decode cX5_removeLamp 40 = .ok (.iconst 1, 1) := by decide +kernel
theorem dX5_removeLamp_41 : decode cX5_removeLamp 41 = .ok (.isub, 1) := by decide +kernel
theorem dX5_removeLamp_42 : decode cX5_removeLamp 42 = .ok (.aload_n 0, 1) := by decide +kernel
theorem dX5_removeLamp_43 : decode cX5_removeLamp 43 = .ok (.getfield 18, 3) := by decide +kernel
theorem dX5_removeLamp_46 : decode cX5_removeLamp 46 = .ok (.iload_n 2, 1) := by decide +kernel
theorem dX5_removeLamp_47 : decode cX5_removeLamp 47 = .ok (.iaload, 1) := by decide +kernel
theorem dX5_removeLamp_48 : decode cX5_removeLamp 48 = .ok (.iastore, 1) := by decide +kernel
theorem dX5_removeLamp_49 : decode cX5_removeLamp 49 = .ok (.aload_n 0, 1) := by decide +kernel
theorem dX5_removeLamp_50 : decode cX5_removeLamp 50 = .ok (.getfield 21, 3) := by decide +kernel
theorem dX5_removeLamp_53 : decode cX5_removeLamp 53 = .ok (.iload_n 2, 1) := by decide +kernel
theorem dX5_removeLamp_54 : decode cX5_removeLamp 54 = .ok (.iconst 1, 1) := by decide +kernel
theorem dX5_removeLamp_55 : decode cX5_removeLamp 55 = .ok (.isub, 1) := by decide +kernel
theorem dX5_removeLamp_56 : decode cX5_removeLamp 56 = .ok (.aload_n 0, 1) := by decide +kernel
theorem dX5_removeLamp_57 : decode cX5_removeLamp 57 = .ok (.getfield 21, 3) := by decide +kernel
theorem dX5_removeLamp_60 : decode cX5_removeLamp 60 = .ok (.iload_n 2, 1) := by decide +kernel
theorem dX5_removeLamp_61 : decode cX5_removeLamp 61 = .ok (.iaload, 1) := by decide +kernel
theorem dX5_removeLamp_62 : decode cX5_removeLamp 62 = .ok (.iastore, 1) := by decide +kernel
theorem dX5_removeLamp_63 : decode cX5_removeLamp 63 = .ok (.iinc 2 1, 3) := by decide +kernel
theorem dX5_removeLamp_66 : decode cX5_removeLamp 66 = .ok (.goto (-53), 3) := by decide +kernel
theorem dX5_removeLamp_69 : decode cX5_removeLamp 69 = .ok (.aload_n 0, 1) := by decide +kernel
theorem dX5_removeLamp_70 : decode cX5_removeLamp 70 = .ok (.dup, 1) := by decide +kernel
theorem dX5_removeLamp_71 : decode cX5_removeLamp 71 = .ok (.getfield 37, 3) := by decide +kernel
theorem dX5_removeLamp_74 : decode cX5_removeLamp 74 = .ok (.iconst 1, 1) := by decide +kernel
theorem dX5_removeLamp_75 : decode cX5_removeLamp 75 = .ok (.isub, 1) := by decide +kernel
theorem dX5_removeLamp_76 : decode cX5_removeLamp 76 = .ok (.putfield 37, 3) := by decide +kernel
theorem dX5_removeLamp_79 : decode cX5_removeLamp 79 = .ok (.return_, 1) := by decide +kernel
theorem dX5_leastFuelAbove_0 : decode cX5_leastFuelAbove 0 = .ok (.iload_n 1, 1) := by decide +kernel
theorem dX5_leastFuelAbove_1 : decode cX5_leastFuelAbove 1 = .ok (.istore_n 2, 1) := by decide +kernel
theorem dX5_leastFuelAbove_2 : decode cX5_leastFuelAbove 2 = .ok (.iconst 0, 1) := by decide +kernel
theorem dX5_leastFuelAbove_3 : decode cX5_leastFuelAbove 3 = .ok (.istore_n 3, 1) := by decide +kernel
theorem dX5_leastFuelAbove_4 : decode cX5_leastFuelAbove 4 = .ok (.iload_n 3, 1) := by decide +kernel
theorem dX5_leastFuelAbove_5 : decode cX5_leastFuelAbove 5 = .ok (.aload_n 0, 1) := by decide +kernel
theorem dX5_leastFuelAbove_6 : decode cX5_leastFuelAbove 6 = .ok (.getfield 37, 3) := by decide +kernel
theorem dX5_leastFuelAbove_9 : decode cX5_leastFuelAbove 9 = .ok (.if_icmp .ge 37, 3) := by decide +kernel
theorem dX5_leastFuelAbove_12 : decode cX5_leastFuelAbove 12 = .ok (.aload_n 0, 1) := by decide +kernel
theorem dX5_leastFuelAbove_13 : decode cX5_leastFuelAbove 13 = .ok (.getfield 21, 3) := by decide +kernel
theorem dX5_leastFuelAbove_16 : decode cX5_leastFuelAbove 16 = .ok (.iload_n 3, 1) := by decide +kernel
theorem dX5_leastFuelAbove_17 : decode cX5_leastFuelAbove 17 = .ok (.iaload, 1) := by decide +kernel
theorem dX5_leastFuelAbove_18 : decode cX5_leastFuelAbove 18 = .ok (.istore 4, 2) := by decide +kernel
theorem dX5_leastFuelAbove_20 : decode cX5_leastFuelAbove 20 = .ok (.iload 4, 2) := by decide +kernel
theorem dX5_leastFuelAbove_22 : decode cX5_leastFuelAbove 22 = .ok (.iload_n 1, 1) := by decide +kernel
theorem dX5_leastFuelAbove_23 : decode cX5_leastFuelAbove 23 = .ok (.if_icmp .le 17, 3) := by decide +kernel
theorem dX5_leastFuelAbove_26 : decode cX5_leastFuelAbove 26 = .ok (.iload_n 2, 1) := by decide +kernel
theorem dX5_leastFuelAbove_27 : decode cX5_leastFuelAbove 27 = .ok (.iload_n 1, 1) := by decide +kernel
theorem dX5_leastFuelAbove_28 : decode cX5_leastFuelAbove 28 = .ok (.if_icmp .eq 9, 3) := by decide +kernel
theorem dX5_leastFuelAbove_31 : decode cX5_leastFuelAbove 31 = .ok (.iload 4, 2) := by decide +kernel
theorem dX5_leastFuelAbove_33 : decode cX5_leastFuelAbove 33 = .ok (.iload_n 2, 1) := by decide +kernel
theorem dX5_leastFuelAbove_34 : decode cX5_leastFuelAbove 34 = .ok (.if_icmp .ge 6, 3) := by decide +kernel
theorem dX5_leastFuelAbove_37 : decode cX5_leastFuelAbove 37 = .ok (.iload 4, 2) := by decide +kernel
theorem dX5_leastFuelAbove_39 : decode cX5_leastFuelAbove 39 = .ok (.istore_n 2, 1) := by decide +kernel
theorem dX5_leastFuelAbove_40 : decode cX5_leastFuelAbove 40 = .ok (.iinc 3 1, 3) := by decide +kernel
theorem dX5_leastFuelAbove_43 : decode cX5_leastFuelAbove 43 = .ok (.goto (-39), 3) := by decide +kernel
theorem dX5_leastFuelAbove_46 : decode cX5_leastFuelAbove 46 = .ok (.iload_n 2, 1) := by decide +kernel
theorem dX5_leastFuelAbove_47 : decode cX5_leastFuelAbove 47 = .ok (.ireturn, 1) := by decide +kernel
set_option maxRecDepth 20000 in
theorem ggX5_nextOnFoot_X0_neighbour : GoodIn wsX5_nextOnFoot wsX0_neighbour := goodIn_r _ [5, 6, 7, 4, 8, 9, 10, 11] (by decide +kernel) (by decide +kernel)
set_option maxRecDepth 20000 in
theorem gX5_nextOnFoot_X0_neighbour : GoodIn wsX5_nextOnFoot (va_wsS RX5 70 yX0_neighbour wsX0_neighbour) := goodIn_app (goodIn_of _ (by decide +kernel)) ggX5_nextOnFoot_X0_neighbour
set_option maxRecDepth 20000 in
theorem ggX5_nextOnFoot_X0_stopsFeet : GoodIn wsX5_nextOnFoot wsX0_stopsFeet := goodIn_r _ [14] (by decide +kernel) (by decide +kernel)
set_option maxRecDepth 20000 in
theorem gX5_nextOnFoot_X0_stopsFeet : GoodIn wsX5_nextOnFoot (va_wsS RX5 50 yX0_stopsFeet wsX0_stopsFeet) := goodIn_app (goodIn_of _ (by decide +kernel)) ggX5_nextOnFoot_X0_stopsFeet
theorem dX5_nextOnFoot_0 : decode cX5_nextOnFoot 0 = .ok (.iload_n 1, 1) := by decide +kernel
theorem dX5_nextOnFoot_1 : decode cX5_nextOnFoot 1 = .ok (.iload_n 2, 1) := by decide +kernel
theorem dX5_nextOnFoot_2 : decode cX5_nextOnFoot 2 = .ok (.invokestatic 70, 3) := by decide +kernel
theorem dX5_nextOnFoot_5 : decode cX5_nextOnFoot 5 = .ok (.istore_n 3, 1) := by decide +kernel
theorem dX5_nextOnFoot_6 : decode cX5_nextOnFoot 6 = .ok (.iload_n 3, 1) := by decide +kernel
theorem dX5_nextOnFoot_7 : decode cX5_nextOnFoot 7 = .ok (.iconst (-1), 1) := by decide +kernel
theorem dX5_nextOnFoot_8 : decode cX5_nextOnFoot 8 = .ok (.if_icmp .eq 15, 3) := by decide +kernel
theorem dX5_nextOnFoot_11 : decode cX5_nextOnFoot 11 = .ok (.aload_n 0, 1) := by decide +kernel
theorem dX5_nextOnFoot_12 : decode cX5_nextOnFoot 12 = .ok (.getfield 9, 3) := by decide +kernel
theorem dX5_nextOnFoot_15 : decode cX5_nextOnFoot 15 = .ok (.iload_n 3, 1) := by decide +kernel
theorem dX5_nextOnFoot_16 : decode cX5_nextOnFoot 16 = .ok (.iaload, 1) := by decide +kernel
theorem dX5_nextOnFoot_17 : decode cX5_nextOnFoot 17 = .ok (.invokestatic 50, 3) := by decide +kernel
theorem dX5_nextOnFoot_20 : decode cX5_nextOnFoot 20 = .ok (.ifCond .eq 7, 3) := by decide +kernel
theorem dX5_nextOnFoot_23 : decode cX5_nextOnFoot 23 = .ok (.iconst (-1), 1) := by decide +kernel
theorem dX5_nextOnFoot_24 : decode cX5_nextOnFoot 24 = .ok (.goto 4, 3) := by decide +kernel
theorem dX5_nextOnFoot_27 : decode cX5_nextOnFoot 27 = .ok (.iload_n 3, 1) := by decide +kernel
theorem dX5_nextOnFoot_28 : decode cX5_nextOnFoot 28 = .ok (.ireturn, 1) := by decide +kernel
theorem dX5_moveWalker_0 : decode cX5_moveWalker 0 = .ok (.aload_n 0, 1) := by decide +kernel
theorem dX5_moveWalker_1 : decode cX5_moveWalker 1 = .ok (.iload_n 1, 1) := by decide +kernel
theorem dX5_moveWalker_2 : decode cX5_moveWalker 2 = .ok (.putfield 40, 3) := by decide +kernel
theorem dX5_moveWalker_5 : decode cX5_moveWalker 5 = .ok (.aload_n 0, 1) := by decide +kernel
theorem dX5_moveWalker_6 : decode cX5_moveWalker 6 = .ok (.dup, 1) := by decide +kernel
theorem dX5_moveWalker_7 : decode cX5_moveWalker 7 = .ok (.getfield 43, 3) := by decide +kernel
theorem dX5_moveWalker_10 : decode cX5_moveWalker 10 = .ok (.iconst 1, 1) := by decide +kernel
theorem dX5_moveWalker_11 : decode cX5_moveWalker 11 = .ok (.iadd, 1) := by decide +kernel
theorem dX5_moveWalker_12 : decode cX5_moveWalker 12 = .ok (.putfield 43, 3) := by decide +kernel
theorem dX5_moveWalker_15 : decode cX5_moveWalker 15 = .ok (.iconst 0, 1) := by decide +kernel
theorem dX5_moveWalker_16 : decode cX5_moveWalker 16 = .ok (.istore_n 2, 1) := by decide +kernel
theorem dX5_moveWalker_17 : decode cX5_moveWalker 17 = .ok (.iload_n 2, 1) := by decide +kernel
theorem dX5_moveWalker_18 : decode cX5_moveWalker 18 = .ok (.aload_n 0, 1) := by decide +kernel
theorem dX5_moveWalker_19 : decode cX5_moveWalker 19 = .ok (.getfield 37, 3) := by decide +kernel
theorem dX5_moveWalker_22 : decode cX5_moveWalker 22 = .ok (.if_icmp .ge 28, 3) := by decide +kernel
theorem dX5_moveWalker_25 : decode cX5_moveWalker 25 = .ok (.aload_n 0, 1) := by decide +kernel
theorem dX5_moveWalker_26 : decode cX5_moveWalker 26 = .ok (.getfield 21, 3) := by decide +kernel
theorem dX5_moveWalker_29 : decode cX5_moveWalker 29 = .ok (.iload_n 2, 1) := by decide +kernel
theorem dX5_moveWalker_30 : decode cX5_moveWalker 30 = .ok (.iaload, 1) := by decide +kernel
theorem dX5_moveWalker_31 : decode cX5_moveWalker 31 = .ok (.ifCond .le 13, 3) := by decide +kernel
theorem dX5_moveWalker_34 : decode cX5_moveWalker 34 = .ok (.aload_n 0, 1) := by decide +kernel
theorem dX5_moveWalker_35 : decode cX5_moveWalker 35 = .ok (.getfield 21, 3) := by decide +kernel
theorem dX5_moveWalker_38 : decode cX5_moveWalker 38 = .ok (.iload_n 2, 1) := by decide +kernel
theorem dX5_moveWalker_39 : decode cX5_moveWalker 39 = .ok (.dup2, 1) := by decide +kernel
theorem dX5_moveWalker_40 : decode cX5_moveWalker 40 = .ok (.iaload, 1) := by decide +kernel
theorem dX5_moveWalker_41 : decode cX5_moveWalker 41 = .ok (.iconst 1, 1) := by decide +kernel
theorem dX5_moveWalker_42 : decode cX5_moveWalker 42 = .ok (.isub, 1) := by decide +kernel
theorem dX5_moveWalker_43 : decode cX5_moveWalker 43 = .ok (.iastore, 1) := by decide +kernel
theorem dX5_moveWalker_44 : decode cX5_moveWalker 44 = .ok (.iinc 2 1, 3) := by decide +kernel
theorem dX5_moveWalker_47 : decode cX5_moveWalker 47 = .ok (.goto (-30), 3) := by decide +kernel
theorem dX5_moveWalker_50 : decode cX5_moveWalker 50 = .ok (.return_, 1) := by decide +kernel
theorem dX6_init_0 : decode cX6_init 0 = .ok (.aload_n 0, 1) := by decide +kernel
theorem dX6_init_1 : decode cX6_init 1 = .ok (.invokespecial 3, 3) := by decide +kernel
theorem dX6_init_4 : decode cX6_init 4 = .ok (.aload_n 0, 1) := by decide +kernel
theorem dX6_init_5 : decode cX6_init 5 = .ok (.bipush 64, 2) := by decide +kernel
theorem dX6_init_7 : decode cX6_init 7 = .ok (.newarray .int, 2) := by decide +kernel
theorem dX6_init_9 : decode cX6_init 9 = .ok (.putfield 9, 3) := by decide +kernel
theorem dX6_init_12 : decode cX6_init 12 = .ok (.aload_n 0, 1) := by decide +kernel
theorem dX6_init_13 : decode cX6_init 13 = .ok (.bipush 64, 2) := by decide +kernel
theorem dX6_init_15 : decode cX6_init 15 = .ok (.newarray .int, 2) := by decide +kernel
theorem dX6_init_17 : decode cX6_init 17 = .ok (.putfield 15, 3) := by decide +kernel
theorem dX6_init_20 : decode cX6_init 20 = .ok (.aload_n 0, 1) := by decide +kernel
theorem dX6_init_21 : decode cX6_init 21 = .ok (.bipush 64, 2) := by decide +kernel
theorem dX6_init_23 : decode cX6_init 23 = .ok (.newarray .boolean, 2) := by decide +kernel
theorem dX6_init_25 : decode cX6_init 25 = .ok (.putfield 18, 3) := by decide +kernel
theorem dX6_init_28 : decode cX6_init 28 = .ok (.aload_n 0, 1) := by decide +kernel
theorem dX6_init_29 : decode cX6_init 29 = .ok (.bipush 64, 2) := by decide +kernel
theorem dX6_init_31 : decode cX6_init 31 = .ok (.newarray .int, 2) := by decide +kernel
theorem dX6_init_33 : decode cX6_init 33 = .ok (.putfield 22, 3) := by decide +kernel
theorem dX6_init_36 : decode cX6_init 36 = .ok (.return_, 1) := by decide +kernel
set_option maxRecDepth 20000 in
theorem ggX6_weigh_X0_stopsFeet : GoodIn wsX6_weigh wsX0_stopsFeet := goodIn_r _ [6] (by decide +kernel) (by decide +kernel)
set_option maxRecDepth 20000 in
theorem gX6_weigh_X0_stopsFeet : GoodIn wsX6_weigh (va_wsS RX6 30 yX0_stopsFeet wsX0_stopsFeet) := goodIn_app (goodIn_of _ (by decide +kernel)) ggX6_weigh_X0_stopsFeet
set_option maxRecDepth 20000 in
theorem ggX6_weigh_X2_at : GoodIn wsX6_weigh wsX2_at := goodIn_r _ [11, 12, 13, 14, 15, 10, 16, 17, 18, 19, 20, 21, 22, 23, 24, 25, 26, 5, 27, 28, 29, 30, 31, 32, 33, 34, 35, 36, 37, 38, 39, 40, 41, 42, 43, 44, 45, 46, 47, 48, 49, 50, 51, 52, 53, 58, 59, 60, 61, 62, 63, 64, 65, 66, 67, 68, 69, 70, 71, 72, 73, 74, 75, 76] (by decide +kernel) (by decide +kernel)
set_option maxRecDepth 20000 in
theorem gX6_weigh_X2_at : GoodIn wsX6_weigh (wsV RX6 36 RX2 yX2_at wsX2_at) := goodIn_app (goodIn_of _ (by decide +kernel)) ggX6_weigh_X2_at
theorem dX6_weigh_0 : decode cX6_weigh 0 = .ok (.iconst 0, 1) := by decide +kernel
theorem dX6_weigh_1 : decode cX6_weigh 1 = .ok (.istore_n 3, 1) := by decide +kernel
theorem dX6_weigh_2 : decode cX6_weigh 2 = .ok (.iload_n 3, 1) := by decide +kernel
theorem dX6_weigh_3 : decode cX6_weigh 3 = .ok (.bipush 64, 2) := by decide +kernel
theorem dX6_weigh_5 : decode cX6_weigh 5 = .ok (.if_icmp .ge 39, 3) := by decide +kernel
theorem dX6_weigh_8 : decode cX6_weigh 8 = .ok (.aload_n 0, 1) := by decide +kernel
theorem dX6_weigh_9 : decode cX6_weigh 9 = .ok (.getfield 9, 3) := by decide +kernel
theorem dX6_weigh_12 : decode cX6_weigh 12 = .ok (.iload_n 3, 1) := by decide +kernel
theorem dX6_weigh_13 : decode cX6_weigh 13 = .ok (.aload_n 1, 1) := by decide +kernel
theorem dX6_weigh_14 : decode cX6_weigh 14 = .ok (.getfield 25, 3) := by decide +kernel
theorem dX6_weigh_17 : decode cX6_weigh 17 = .ok (.iload_n 3, 1) := by decide +kernel
theorem dX6_weigh_18 : decode cX6_weigh 18 = .ok (.iaload, 1) := by decide +kernel
theorem dX6_weigh_19 : decode cX6_weigh 19 = .ok (.invokestatic 30, 3) := by decide +kernel
theorem dX6_weigh_22 : decode cX6_weigh 22 = .ok (.ifCond .eq 7, 3) := by decide +kernel
theorem dX6_weigh_25 : decode cX6_weigh 25 = .ok (.iconst 0, 1) := by decide +kernel
theorem dX6_weigh_26 : decode cX6_weigh 26 = .ok (.goto 11, 3) := by decide +kernel
theorem dX6_weigh_29 : decode cX6_weigh 29 = .ok (.iconst 1, 1) := by decide +kernel
theorem dX6_weigh_30 : decode cX6_weigh 30 = .ok (.aload_n 2, 1) := by decide +kernel
theorem dX6_weigh_31 : decode cX6_weigh 31 = .ok (.aload_n 1, 1) := by decide +kernel
theorem dX6_weigh_32 : decode cX6_weigh 32 = .ok (.iload_n 3, 1) := by decide +kernel
theorem dX6_weigh_33 : decode cX6_weigh 33 = .ok (.invokevirtual 36, 3) := by decide +kernel
theorem dX6_weigh_36 : decode cX6_weigh 36 = .ok (.iadd, 1) := by decide +kernel
theorem dX6_weigh_37 : decode cX6_weigh 37 = .ok (.iastore, 1) := by decide +kernel
theorem dX6_weigh_38 : decode cX6_weigh 38 = .ok (.iinc 3 1, 3) := by decide +kernel
theorem dX6_weigh_41 : decode cX6_weigh 41 = .ok (.goto (-39), 3) := by decide +kernel
theorem dX6_weigh_44 : decode cX6_weigh 44 = .ok (.return_, 1) := by decide +kernel
theorem dX6_startFrom_0 : decode cX6_startFrom 0 = .ok (.iconst 0, 1) := by decide +kernel
theorem dX6_startFrom_1 : decode cX6_startFrom 1 = .ok (.istore_n 2, 1) := by decide +kernel
theorem dX6_startFrom_2 : decode cX6_startFrom 2 = .ok (.iload_n 2, 1) := by decide +kernel
theorem dX6_startFrom_3 : decode cX6_startFrom 3 = .ok (.bipush 64, 2) := by decide +kernel
theorem dX6_startFrom_5 : decode cX6_startFrom 5 = .ok (.if_icmp .ge 33, 3) := by decide +kernel
theorem dX6_startFrom_8 : decode cX6_startFrom 8 = .ok (.aload_n 0, 1) := by decide +kernel
theorem dX6_startFrom_9 : decode cX6_startFrom 9 = .ok (.getfield 15, 3) := by decide +kernel
theorem dX6_startFrom_12 : decode cX6_startFrom 12 = .ok (.iload_n 2, 1) := by decide +kernel
theorem dX6_startFrom_13 : decode cX6_startFrom 13 = .ok (.iload_n 2, 1) := by decide +kernel
theorem dX6_startFrom_14 : decode cX6_startFrom 14 = .ok (.iload_n 1, 1) := by decide +kernel
theorem dX6_startFrom_15 : decode cX6_startFrom 15 = .ok (.if_icmp .ne 7, 3) := by decide +kernel
theorem dX6_startFrom_18 : decode cX6_startFrom 18 = .ok (.iconst 0, 1) := by decide +kernel
theorem dX6_startFrom_19 : decode cX6_startFrom 19 = .ok (.goto 5, 3) := by decide +kernel
theorem dX6_startFrom_22 : decode cX6_startFrom 22 = .ok (.ldc 42, 2) := by decide +kernel
theorem dX6_startFrom_24 : decode cX6_startFrom 24 = .ok (.iastore, 1) := by decide +kernel
theorem dX6_startFrom_25 : decode cX6_startFrom 25 = .ok (.aload_n 0, 1) := by decide +kernel
theorem dX6_startFrom_26 : decode cX6_startFrom 26 = .ok (.getfield 18, 3) := by decide +kernel
theorem dX6_startFrom_29 : decode cX6_startFrom 29 = .ok (.iload_n 2, 1) := by decide +kernel
theorem dX6_startFrom_30 : decode cX6_startFrom 30 = .ok (.iconst 0, 1) := by decide +kernel
theorem dX6_startFrom_31 : decode cX6_startFrom 31 = .ok (.bastore, 1) := by decide +kernel
theorem dX6_startFrom_32 : decode cX6_startFrom 32 = .ok (.iinc 2 1, 3) := by decide +kernel
theorem dX6_startFrom_35 : decode cX6_startFrom 35 = .ok (.goto (-33), 3) := by decide +kernel
theorem dX6_startFrom_38 : decode cX6_startFrom 38 = .ok (.return_, 1) := by decide +kernel
set_option maxRecDepth 20000 in
theorem ggX6_settleFrom_X6_startFrom : GoodIn wsX6_settleFrom wsX6_startFrom := goodIn_r _ [6, 7, 8, 1, 28, 29, 30, 31] (by decide +kernel) (by decide +kernel)
set_option maxRecDepth 20000 in
theorem gX6_settleFrom_X6_startFrom : GoodIn wsX6_settleFrom (wsV RX6 43 RX6 yX6_startFrom wsX6_startFrom) := goodIn_app (goodIn_of _ (by decide +kernel)) ggX6_settleFrom_X6_startFrom
set_option maxRecDepth 20000 in
theorem ggX6_settleFrom_X6_leastUnsettled : GoodIn wsX6_settleFrom wsX6_leastUnsettled := goodIn_r _ [12, 1, 7, 8, 28, 29, 30, 31] (by decide +kernel) (by decide +kernel)
set_option maxRecDepth 20000 in
theorem gX6_settleFrom_X6_leastUnsettled : GoodIn wsX6_settleFrom (wsV RX6 47 RX6 yX6_leastUnsettled wsX6_leastUnsettled) := goodIn_app (goodIn_of _ (by decide +kernel)) ggX6_settleFrom_X6_leastUnsettled
set_option maxRecDepth 20000 in
theorem ggX6_settleFrom_X6_lessenAround : GoodIn wsX6_settleFrom wsX6_lessenAround := goodIn_r _ [16, 17, 7, 18, 19, 20, 21, 22, 23, 24, 25, 26, 27, 28, 29, 30, 31] (by decide +kernel) (by decide +kernel)
set_option maxRecDepth 20000 in
theorem gX6_settleFrom_X6_lessenAround : GoodIn wsX6_settleFrom (wsV RX6 51 RX6 yX6_lessenAround wsX6_lessenAround) := goodIn_app (goodIn_of _ (by decide +kernel)) ggX6_settleFrom_X6_lessenAround
theorem dX6_settleFrom_0 : decode cX6_settleFrom 0 = .ok (.aload_n 0, 1) := by decide +kernel
theorem dX6_settleFrom_1 : decode cX6_settleFrom 1 = .ok (.iload_n 1, 1) := by decide +kernel
theorem dX6_settleFrom_2 : decode cX6_settleFrom 2 = .ok (.invokevirtual 43, 3) := by decide +kernel
theorem dX6_settleFrom_5 : decode cX6_settleFrom 5 = .ok (.iconst 0, 1) := by decide +kernel
theorem dX6_settleFrom_6 : decode cX6_settleFrom 6 = .ok (.istore_n 2, 1) := by decide +kernel
theorem dX6_settleFrom_7 : decode cX6_settleFrom 7 = .ok (.iload_n 2, 1) := by decide +kernel
theorem dX6_settleFrom_8 : decode cX6_settleFrom 8 = .ok (.bipush 64, 2) := by decide +kernel
theorem dX6_settleFrom_10 : decode cX6_settleFrom 10 = .ok (.if_icmp .ge 33, 3) := by decide +kernel
theorem dX6_settleFrom_13 : decode cX6_settleFrom 13 = .ok (.aload_n 0, 1) := by decide +kernel
theorem dX6_settleFrom_14 : decode cX6_settleFrom 14 = .ok (.invokevirtual 47, 3) := by decide +kernel
theorem dX6_settleFrom_17 : decode cX6_settleFrom 17 = .ok (.istore_n 3, 1) := by decide +kernel
theorem dX6_settleFrom_18 : decode cX6_settleFrom 18 = .ok (.iload_n 3, 1) := by decide +kernel
theorem dX6_settleFrom_19 : decode cX6_settleFrom 19 = .ok (.iconst (-1), 1) := by decide +kernel
theorem dX6_settleFrom_20 : decode cX6_settleFrom 20 = .ok (.if_icmp .ne 4, 3) := by decide +kernel
theorem dX6_settleFrom_23 : decode cX6_settleFrom 23 = .ok (.return_, 1) := by decide +kernel
theorem dX6_settleFrom_24 : decode cX6_settleFrom 24 = .ok (.aload_n 0, 1) := by decide +kernel
theorem dX6_settleFrom_25 : decode cX6_settleFrom 25 = .ok (.getfield 18, 3) := by decide +kernel
theorem dX6_settleFrom_28 : decode cX6_settleFrom 28 = .ok (.iload_n 3, 1) := by decide +kernel
theorem dX6_settleFrom_29 : decode cX6_settleFrom 29 = .ok (.iconst 1, 1) := by decide +kernel
theorem dX6_settleFrom_30 : decode cX6_settleFrom 30 = .ok (.bastore, 1) := by decide +kernel
theorem dX6_settleFrom_31 : decode cX6_settleFrom 31 = .ok (.aload_n 0, 1) := by decide +kernel
theorem dX6_settleFrom_32 : decode cX6_settleFrom 32 = .ok (.iload_n 3, 1) := by decide +kernel
theorem dX6_settleFrom_33 : decode cX6_settleFrom 33 = .ok (.invokevirtual 51, 3) := by decide +kernel
theorem dX6_settleFrom_36 : decode cX6_settleFrom 36 = .ok (.pop, 1) := by decide +kernel
theorem dX6_settleFrom_37 : decode cX6_settleFrom 37 = .ok (.iinc 2 1, 3) := by decide +kernel
theorem dX6_settleFrom_40 : decode cX6_settleFrom 40 = .ok (.goto (-33), 3) := by decide +kernel
theorem dX6_settleFrom_43 : decode cX6_settleFrom 43 = .ok (.return_, 1) := by decide +kernel
theorem dX6_leastUnsettled_0 : decode cX6_leastUnsettled 0 = .ok (.iconst (-1), 1) := by decide +kernel
theorem dX6_leastUnsettled_1 : decode cX6_leastUnsettled 1 = .ok (.istore_n 1, 1) := by decide +kernel
theorem dX6_leastUnsettled_2 : decode cX6_leastUnsettled 2 = .ok (.iconst 0, 1) := by decide +kernel
theorem dX6_leastUnsettled_3 : decode cX6_leastUnsettled 3 = .ok (.istore_n 2, 1) := by decide +kernel
theorem dX6_leastUnsettled_4 : decode cX6_leastUnsettled 4 = .ok (.iload_n 2, 1) := by decide +kernel
theorem dX6_leastUnsettled_5 : decode cX6_leastUnsettled 5 = .ok (.bipush 64, 2) := by decide +kernel
theorem dX6_leastUnsettled_7 : decode cX6_leastUnsettled 7 = .ok (.if_icmp .ge 45, 3) := by decide +kernel
theorem dX6_leastUnsettled_10 : decode cX6_leastUnsettled 10 = .ok (.aload_n 0, 1) := by decide +kernel
theorem dX6_leastUnsettled_11 : decode cX6_leastUnsettled 11 = .ok (.getfield 18, 3) := by decide +kernel
theorem dX6_leastUnsettled_14 : decode cX6_leastUnsettled 14 = .ok (.iload_n 2, 1) := by decide +kernel
theorem dX6_leastUnsettled_15 : decode cX6_leastUnsettled 15 = .ok (.baload, 1) := by decide +kernel
theorem dX6_leastUnsettled_16 : decode cX6_leastUnsettled 16 = .ok (.ifCond .ne 30, 3) := by decide +kernel
theorem dX6_leastUnsettled_19 : decode cX6_leastUnsettled 19 = .ok (.aload_n 0, 1) := by decide +kernel
theorem dX6_leastUnsettled_20 : decode cX6_leastUnsettled 20 = .ok (.getfield 15, 3) := by decide +kernel
theorem dX6_leastUnsettled_23 : decode cX6_leastUnsettled 23 = .ok (.iload_n 2, 1) := by decide +kernel
theorem dX6_leastUnsettled_24 : decode cX6_leastUnsettled 24 = .ok (.iaload, 1) := by decide +kernel
theorem dX6_leastUnsettled_25 : decode cX6_leastUnsettled 25 = .ok (.iload_n 1, 1) := by decide +kernel
theorem dX6_leastUnsettled_26 : decode cX6_leastUnsettled 26 = .ok (.iconst (-1), 1) := by decide +kernel
theorem dX6_leastUnsettled_27 : decode cX6_leastUnsettled 27 = .ok (.if_icmp .ne 8, 3) := by decide +kernel
theorem dX6_leastUnsettled_30 : decode cX6_leastUnsettled 30 = .ok (.ldc 42, 2) := by decide +kernel
theorem dX6_leastUnsettled_32 : decode cX6_leastUnsettled 32 = .ok (.goto 9, 3) := by decide +kernel
theorem dX6_leastUnsettled_35 : decode cX6_leastUnsettled 35 = .ok (.aload_n 0, 1) := by decide +kernel
theorem dX6_leastUnsettled_36 : decode cX6_leastUnsettled 36 = .ok (.getfield 15, 3) := by decide +kernel
theorem dX6_leastUnsettled_39 : decode cX6_leastUnsettled 39 = .ok (.iload_n 1, 1) := by decide +kernel
theorem dX6_leastUnsettled_40 : decode cX6_leastUnsettled 40 = .ok (.iaload, 1) := by decide +kernel
theorem dX6_leastUnsettled_41 : decode cX6_leastUnsettled 41 = .ok (.if_icmp .ge 5, 3) := by decide +kernel
theorem dX6_leastUnsettled_44 : decode cX6_leastUnsettled 44 = .ok (.iload_n 2, 1) := by decide +kernel
theorem dX6_leastUnsettled_45 : decode cX6_leastUnsettled 45 = .ok (.istore_n 1, 1) := by decide +kernel
theorem dX6_leastUnsettled_46 : decode cX6_leastUnsettled 46 = .ok (.iinc 2 1, 3) := by decide +kernel
theorem dX6_leastUnsettled_49 : decode cX6_leastUnsettled 49 = .ok (.goto (-45), 3) := by decide +kernel
theorem dX6_leastUnsettled_52 : decode cX6_leastUnsettled 52 = .ok (.iload_n 1, 1) := by decide +kernel
theorem dX6_leastUnsettled_53 : decode cX6_leastUnsettled 53 = .ok (.ireturn, 1) := by decide +kernel
set_option maxRecDepth 20000 in
theorem ggX6_lessenFrom_X6_startFrom : GoodIn wsX6_lessenFrom wsX6_startFrom := goodIn_r _ [7, 1, 2, 8, 24, 25, 26, 27] (by decide +kernel) (by decide +kernel)
set_option maxRecDepth 20000 in
theorem gX6_lessenFrom_X6_startFrom : GoodIn wsX6_lessenFrom (wsV RX6 43 RX6 yX6_startFrom wsX6_startFrom) := goodIn_app (goodIn_of _ (by decide +kernel)) ggX6_lessenFrom_X6_startFrom
set_option maxRecDepth 20000 in
theorem ggX6_lessenFrom_X6_lessenAround : GoodIn wsX6_lessenFrom wsX6_lessenAround := goodIn_r _ [12, 13, 1, 14, 15, 16, 17, 18, 19, 20, 21, 22, 23, 24, 25, 26, 27] (by decide +kernel) (by decide +kernel)
set_option maxRecDepth 20000 in
theorem gX6_lessenFrom_X6_lessenAround : GoodIn wsX6_lessenFrom (wsV RX6 51 RX6 yX6_lessenAround wsX6_lessenAround) := goodIn_app (goodIn_of _ (by decide +kernel)) ggX6_lessenFrom_X6_lessenAround
theorem dX6_lessenFrom_0 : decode cX6_lessenFrom 0 = .ok (.aload_n 0, 1) := by decide +kernel
theorem dX6_lessenFrom_1 : decode cX6_lessenFrom 1 = .ok (.iload_n 1, 1) := by decide +kernel
theorem dX6_lessenFrom_2 : decode cX6_lessenFrom 2 = .ok (.invokevirtual 43, 3) := by decide +kernel
theorem dX6_lessenFrom_5 : decode cX6_lessenFrom 5 = .ok (.iconst 1, 1) := by decide +kernel
theorem dX6_lessenFrom_6 : decode cX6_lessenFrom 6 = .ok (.istore_n 2, 1) := by decide +kernel
theorem dX6_lessenFrom_7 : decode cX6_lessenFrom 7 = .ok (.iconst 0, 1) := by decide +kernel
theorem dX6_lessenFrom_8 : decode cX6_lessenFrom 8 = .ok (.istore_n 3, 1) := by decide +kernel
theorem dX6_lessenFrom_9 : decode cX6_lessenFrom 9 = .ok (.iload_n 3, 1) := by decide +kernel
theorem dX6_lessenFrom_10 : decode cX6_lessenFrom 10 = .ok (.bipush 64, 2) := by decide +kernel
theorem dX6_lessenFrom_12 : decode cX6_lessenFrom 12 = .ok (.if_icmp .ge 54, 3) := by decide +kernel
theorem dX6_lessenFrom_15 : decode cX6_lessenFrom 15 = .ok (.iload_n 2, 1) := by decide +kernel
theorem dX6_lessenFrom_16 : decode cX6_lessenFrom 16 = .ok (.ifCond .eq 50, 3) := by decide +kernel
theorem dX6_lessenFrom_19 : decode cX6_lessenFrom 19 = .ok (.iconst 0, 1) := by decide +kernel
theorem dX6_lessenFrom_20 : decode cX6_lessenFrom 20 = .ok (.istore_n 2, 1) := by decide +kernel
theorem dX6_lessenFrom_21 : decode cX6_lessenFrom 21 = .ok (.iconst 0, 1) := by decide +kernel
theorem dX6_lessenFrom_22 : decode cX6_lessenFrom 22 = .ok (.istore 4, 2) := by decide +kernel
theorem dX6_lessenFrom_24 : decode cX6_lessenFrom 24 = .ok (.iload 4, 2) := by decide +kernel
theorem dX6_lessenFrom_26 : decode cX6_lessenFrom 26 = .ok (.bipush 64, 2) := by decide +kernel
theorem dX6_lessenFrom_28 : decode cX6_lessenFrom 28 = .ok (.if_icmp .ge 32, 3) := by decide +kernel
theorem dX6_lessenFrom_31 : decode cX6_lessenFrom 31 = .ok (.aload_n 0, 1) := by decide +kernel
theorem dX6_lessenFrom_32 : decode cX6_lessenFrom 32 = .ok (.getfield 15, 3) := by decide +kernel
theorem dX6_lessenFrom_35 : decode cX6_lessenFrom 35 = .ok (.iload 4, 2) := by decide +kernel
theorem dX6_lessenFrom_37 : decode cX6_lessenFrom 37 = .ok (.iaload, 1) := by decide +kernel
theorem dX6_lessenFrom_38 : decode cX6_lessenFrom 38 = .ok (.ldc 42, 2) := by decide +kernel
theorem dX6_lessenFrom_40 : decode cX6_lessenFrom 40 = .ok (.if_icmp .ge 14, 3) := by decide +kernel
theorem dX6_lessenFrom_43 : decode cX6_lessenFrom 43 = .ok (.aload_n 0, 1) := by decide +kernel
theorem dX6_lessenFrom_44 : decode cX6_lessenFrom 44 = .ok (.iload 4, 2) := by decide +kernel
theorem dX6_lessenFrom_46 : decode cX6_lessenFrom 46 = .ok (.invokevirtual 51, 3) := by decide +kernel
theorem dX6_lessenFrom_49 : decode cX6_lessenFrom 49 = .ok (.ifCond .eq 5, 3) := by decide +kernel
theorem dX6_lessenFrom_52 : decode cX6_lessenFrom 52 = .ok (.iconst 1, 1) := by decide +kernel
theorem dX6_lessenFrom_53 : decode cX6_lessenFrom 53 = .ok (.istore_n 2, 1) := by decide +kernel
theorem dX6_lessenFrom_54 : decode cX6_lessenFrom 54 = .ok (.iinc 4 1, 3) := by decide +kernel
theorem dX6_lessenFrom_57 : decode cX6_lessenFrom 57 = .ok (.goto (-33), 3) := by decide +kernel
theorem dX6_lessenFrom_60 : decode cX6_lessenFrom 60 = .ok (.iinc 3 1, 3) := by decide +kernel
theorem dX6_lessenFrom_63 : decode cX6_lessenFrom 63 = .ok (.goto (-54), 3) := by decide +kernel
theorem dX6_lessenFrom_66 : decode cX6_lessenFrom 66 = .ok (.return_, 1) := by decide +kernel
set_option maxRecDepth 20000 in
theorem ggX6_lessenAround_X0_neighbour : GoodIn wsX6_lessenAround wsX0_neighbour := goodIn_r _ [6, 7, 8, 5, 9, 10, 11, 12] (by decide +kernel) (by decide +kernel)
set_option maxRecDepth 20000 in
theorem gX6_lessenAround_X0_neighbour : GoodIn wsX6_lessenAround (va_wsS RX6 54 yX0_neighbour wsX0_neighbour) := goodIn_app (goodIn_of _ (by decide +kernel)) ggX6_lessenAround_X0_neighbour
theorem dX6_lessenAround_0 : decode cX6_lessenAround 0 = .ok (.iconst 0, 1) := by decide +kernel
theorem dX6_lessenAround_1 : decode cX6_lessenAround 1 = .ok (.istore_n 2, 1) := by decide +kernel
theorem dX6_lessenAround_2 : decode cX6_lessenAround 2 = .ok (.iconst 0, 1) := by decide +kernel
theorem dX6_lessenAround_3 : decode cX6_lessenAround 3 = .ok (.istore_n 3, 1) := by decide +kernel
theorem dX6_lessenAround_4 : decode cX6_lessenAround 4 = .ok (.iload_n 3, 1) := by decide +kernel
theorem dX6_lessenAround_5 : decode cX6_lessenAround 5 = .ok (.iconst 4, 1) := by decide +kernel
theorem dX6_lessenAround_6 : decode cX6_lessenAround 6 = .ok (.if_icmp .ge 79, 3) := by decide +kernel
theorem dX6_lessenAround_9 : decode cX6_lessenAround 9 = .ok (.iload_n 1, 1) := by decide +kernel
theorem dX6_lessenAround_10 : decode cX6_lessenAround 10 = .ok (.iload_n 3, 1) := by decide +kernel
theorem dX6_lessenAround_11 : decode cX6_lessenAround 11 = .ok (.invokestatic 54, 3) := by decide +kernel
theorem dX6_lessenAround_14 : decode cX6_lessenAround 14 = .ok (.istore 4, 2) := by decide +kernel
theorem dX6_lessenAround_16 : decode cX6_lessenAround 16 = .ok (.iload 4, 2) := by decide +kernel
theorem dX6_lessenAround_18 : decode cX6_lessenAround 18 = .ok (.iconst (-1), 1) := by decide +kernel
theorem dX6_lessenAround_19 : decode cX6_lessenAround 19 = .ok (.if_icmp .eq 60, 3) := by decide +kernel
theorem dX6_lessenAround_22 : decode cX6_lessenAround 22 = .ok (.aload_n 0, 1) := by decide +kernel
theorem dX6_lessenAround_23 : decode cX6_lessenAround 23 = .ok (.getfield 9, 3) := by decide +kernel
theorem dX6_lessenAround_26 : decode cX6_lessenAround 26 = .ok (.iload 4, 2) := by decide +kernel
theorem dX6_lessenAround_28 : decode cX6_lessenAround 28 = .ok (.iaload, 1) := by decide +kernel
theorem dX6_lessenAround_29 : decode cX6_lessenAround 29 = .ok (.ifCond .le 50, 3) := by decide +kernel
theorem dX6_lessenAround_32 : decode cX6_lessenAround 32 = .ok (.aload_n 0, 1) := by decide +kernel
theorem dX6_lessenAround_33 : decode cX6_lessenAround 33 = .ok (.getfield 15, 3) := by decide +kernel
theorem dX6_lessenAround_36 : decode cX6_lessenAround 36 = .ok (.iload_n 1, 1) := by decide +kernel
theorem dX6_lessenAround_37 : decode cX6_lessenAround 37 = .ok (.iaload, 1) := by decide +kernel
theorem dX6_lessenAround_38 : decode cX6_lessenAround 38 = .ok (.aload_n 0, 1) := by decide +kernel
theorem dX6_lessenAround_39 : decode cX6_lessenAround 39 = .ok (.getfield 9, 3) := by decide +kernel
theorem dX6_lessenAround_42 : decode cX6_lessenAround 42 = .ok (.iload 4, 2) := by decide +kernel
theorem dX6_lessenAround_44 : decode cX6_lessenAround 44 = .ok (.iaload, 1) := by decide +kernel
theorem dX6_lessenAround_45 : decode cX6_lessenAround 45 = .ok (.iadd, 1) := by decide +kernel
theorem dX6_lessenAround_46 : decode cX6_lessenAround 46 = .ok (.aload_n 0, 1) := by decide +kernel
theorem dX6_lessenAround_47 : decode cX6_lessenAround 47 = .ok (.getfield 15, 3) := by decide +kernel
theorem dX6_lessenAround_50 : decode cX6_lessenAround 50 = .ok (.iload 4, 2) := by decide +kernel
theorem dX6_lessenAround_52 : decode cX6_lessenAround 52 = .ok (.iaload, 1) := by decide +kernel
theorem dX6_lessenAround_53 : decode cX6_lessenAround 53 = .ok (.if_icmp .ge 26, 3) := by decide +kernel
theorem dX6_lessenAround_56 : decode cX6_lessenAround 56 = .ok (.aload_n 0, 1) := by decide +kernel
theorem dX6_lessenAround_57 : decode cX6_lessenAround 57 = .ok (.getfield 15, 3) := by decide +kernel
theorem dX6_lessenAround_60 : decode cX6_lessenAround 60 = .ok (.iload 4, 2) := by decide +kernel
theorem dX6_lessenAround_62 : decode cX6_lessenAround 62 = .ok (.aload_n 0, 1) := by decide +kernel
theorem dX6_lessenAround_63 : decode cX6_lessenAround 63 = .ok (.getfield 15, 3) := by decide +kernel
theorem dX6_lessenAround_66 : decode cX6_lessenAround 66 = .ok (.iload_n 1, 1) := by decide +kernel
theorem dX6_lessenAround_67 : decode cX6_lessenAround 67 = .ok (.iaload, 1) := by decide +kernel
theorem dX6_lessenAround_68 : decode cX6_lessenAround 68 = .ok (.aload_n 0, 1) := by decide +kernel
theorem dX6_lessenAround_69 : decode cX6_lessenAround 69 = .ok (.getfield 9, 3) := by decide +kernel
theorem dX6_lessenAround_72 : decode cX6_lessenAround 72 = .ok (.iload 4, 2) := by decide +kernel
theorem dX6_lessenAround_74 : decode cX6_lessenAround 74 = .ok (.iaload, 1) := by decide +kernel
theorem dX6_lessenAround_75 : decode cX6_lessenAround 75 = .ok (.iadd, 1) := by decide +kernel
theorem dX6_lessenAround_76 : decode cX6_lessenAround 76 = .ok (.iastore, 1) := by decide +kernel
theorem dX6_lessenAround_77 : decode cX6_lessenAround 77 = .ok (.iconst 1, 1) := by decide +kernel
theorem dX6_lessenAround_78 : decode cX6_lessenAround 78 = .ok (.istore_n 2, 1) := by decide +kernel
theorem dX6_lessenAround_79 : decode cX6_lessenAround 79 = .ok (.iinc 3 1, 3) := by decide +kernel
theorem dX6_lessenAround_82 : decode cX6_lessenAround 82 = .ok (.goto (-78), 3) := by decide +kernel
theorem dX6_lessenAround_85 : decode cX6_lessenAround 85 = .ok (.iload_n 2, 1) := by decide +kernel
theorem dX6_lessenAround_86 : decode cX6_lessenAround 86 = .ok (.ireturn, 1) := by decide +kernel
theorem dX6_leastTo_0 : decode cX6_leastTo 0 = .ok (.aload_n 0, 1) := by decide +kernel
theorem dX6_leastTo_1 : decode cX6_leastTo 1 = .ok (.getfield 15, 3) := by decide +kernel
theorem dX6_leastTo_4 : decode cX6_leastTo 4 = .ok (.iload_n 1, 1) := by decide +kernel
theorem dX6_leastTo_5 : decode cX6_leastTo 5 = .ok (.iaload, 1) := by decide +kernel
theorem dX6_leastTo_6 : decode cX6_leastTo 6 = .ok (.ldc 42, 2) := by decide +kernel
theorem dX6_leastTo_8 : decode cX6_leastTo 8 = .ok (.if_icmp .ge 12, 3) := by decide +kernel
theorem dX6_leastTo_11 : decode cX6_leastTo 11 = .ok (.aload_n 0, 1) := by decide +kernel
theorem dX6_leastTo_12 : decode cX6_leastTo 12 = .ok (.getfield 15, 3) := by decide +kernel
theorem dX6_leastTo_15 : decode cX6_leastTo 15 = .ok (.iload_n 1, 1) := by decide +kernel
theorem dX6_leastTo_16 : decode cX6_leastTo 16 = .ok (.iaload, 1) := by decide +kernel
theorem dX6_leastTo_17 : decode cX6_leastTo 17 = .ok (.goto 5, 3) := by decide +kernel
theorem dX6_leastTo_20 : decode cX6_leastTo 20 = .ok (.bipush (-4), 2) := by decide +kernel
theorem dX6_leastTo_22 : decode cX6_leastTo 22 = .ok (.ireturn, 1) := by decide +kernel
set_option maxRecDepth 20000 in
theorem ggX6_cellOnWay_X6_nextOnWay : GoodIn wsX6_cellOnWay wsX6_nextOnWay := goodIn_r _ [7, 1, 8, 9, 10, 11, 12, 13, 14, 15, 16, 17, 18, 19, 20, 21, 22] (by decide +kernel) (by decide +kernel)
set_option maxRecDepth 20000 in
theorem gX6_cellOnWay_X6_nextOnWay : GoodIn wsX6_cellOnWay (wsV RX6 58 RX6 yX6_nextOnWay wsX6_nextOnWay) := goodIn_app (goodIn_of _ (by decide +kernel)) ggX6_cellOnWay_X6_nextOnWay
theorem dX6_cellOnWay_0 : decode cX6_cellOnWay 0 = .ok (.aload_n 0, 1) := by decide +kernel
theorem dX6_cellOnWay_1 : decode cX6_cellOnWay 1 = .ok (.getfield 15, 3) := by decide +kernel
theorem dX6_cellOnWay_4 : decode cX6_cellOnWay 4 = .ok (.iload_n 1, 1) := by decide +kernel
theorem dX6_cellOnWay_5 : decode cX6_cellOnWay 5 = .ok (.iaload, 1) := by decide +kernel
theorem dX6_cellOnWay_6 : decode cX6_cellOnWay 6 = .ok (.ldc 42, 2) := by decide +kernel
theorem dX6_cellOnWay_8 : decode cX6_cellOnWay 8 = .ok (.if_icmp .lt 6, 3) := by decide +kernel
theorem dX6_cellOnWay_11 : decode cX6_cellOnWay 11 = .ok (.bipush (-4), 2) := by decide +kernel
theorem dX6_cellOnWay_13 : decode cX6_cellOnWay 13 = .ok (.ireturn, 1) := by decide +kernel
theorem dX6_cellOnWay_14 : decode cX6_cellOnWay 14 = .ok (.iload_n 1, 1) := by decide +kernel
theorem dX6_cellOnWay_15 : decode cX6_cellOnWay 15 = .ok (.istore 4, 2) := by decide +kernel
theorem dX6_cellOnWay_17 : decode cX6_cellOnWay 17 = .ok (.iconst 0, 1) := by decide +kernel
theorem dX6_cellOnWay_18 : decode cX6_cellOnWay 18 = .ok (.istore 5, 2) := by decide +kernel
theorem dX6_cellOnWay_20 : decode cX6_cellOnWay 20 = .ok (.iload 5, 2) := by decide +kernel
theorem dX6_cellOnWay_22 : decode cX6_cellOnWay 22 = .ok (.iload_n 3, 1) := by decide +kernel
theorem dX6_cellOnWay_23 : decode cX6_cellOnWay 23 = .ok (.if_icmp .ge 33, 3) := by decide +kernel
theorem dX6_cellOnWay_26 : decode cX6_cellOnWay 26 = .ok (.iload 5, 2) := by decide +kernel
theorem dX6_cellOnWay_28 : decode cX6_cellOnWay 28 = .ok (.bipush 64, 2) := by decide +kernel
theorem dX6_cellOnWay_30 : decode cX6_cellOnWay 30 = .ok (.if_icmp .ge 26, 3) := by decide +kernel
theorem dX6_cellOnWay_33 : decode cX6_cellOnWay 33 = .ok (.iload 4, 2) := by decide +kernel
theorem dX6_cellOnWay_35 : decode cX6_cellOnWay 35 = .ok (.iload_n 2, 1) := by decide +kernel
theorem dX6_cellOnWay_36 : decode cX6_cellOnWay 36 = .ok (.if_icmp .ne 6, 3) := by decide +kernel
theorem dX6_cellOnWay_39 : decode cX6_cellOnWay 39 = .ok (.bipush (-4), 2) := by decide +kernel
theorem dX6_cellOnWay_41 : decode cX6_cellOnWay 41 = .ok (.ireturn, 1) := by decide +kernel
theorem dX6_cellOnWay_42 : decode cX6_cellOnWay 42 = .ok (.aload_n 0, 1) := by decide +kernel
theorem dX6_cellOnWay_43 : decode cX6_cellOnWay 43 = .ok (.iload 4, 2) := by decide +kernel
theorem dX6_cellOnWay_45 : decode cX6_cellOnWay 45 = .ok (.invokevirtual 58, 3) := by decide +kernel
theorem dX6_cellOnWay_48 : decode cX6_cellOnWay 48 = .ok (.istore 4, 2) := by decide +kernel
theorem dX6_cellOnWay_50 : decode cX6_cellOnWay 50 = .ok (.iinc 5 1, 3) := by decide +kernel
theorem dX6_cellOnWay_53 : decode cX6_cellOnWay 53 = .ok (.goto (-33), 3) := by decide +kernel
theorem dX6_cellOnWay_56 : decode cX6_cellOnWay 56 = .ok (.iload 4, 2) := by decide +kernel
theorem dX6_cellOnWay_58 : decode cX6_cellOnWay 58 = .ok (.ireturn, 1) := by decide +kernel
set_option maxRecDepth 20000 in
theorem ggX6_nextOnWay_X0_neighbour : GoodIn wsX6_nextOnWay wsX0_neighbour := goodIn_r _ [6, 7, 8, 5, 9, 10, 11, 12] (by decide +kernel) (by decide +kernel)
set_option maxRecDepth 20000 in
theorem gX6_nextOnWay_X0_neighbour : GoodIn wsX6_nextOnWay (va_wsS RX6 54 yX0_neighbour wsX0_neighbour) := goodIn_app (goodIn_of _ (by decide +kernel)) ggX6_nextOnWay_X0_neighbour
theorem dX6_nextOnWay_0 : decode cX6_nextOnWay 0 = .ok (.iconst 0, 1) := by decide +kernel
theorem dX6_nextOnWay_1 : decode cX6_nextOnWay 1 = .ok (.istore_n 2, 1) := by decide +kernel
theorem dX6_nextOnWay_2 : decode cX6_nextOnWay 2 = .ok (.iload_n 2, 1) := by decide +kernel
theorem dX6_nextOnWay_3 : decode cX6_nextOnWay 3 = .ok (.iconst 4, 1) := by decide +kernel
theorem dX6_nextOnWay_4 : decode cX6_nextOnWay 4 = .ok (.if_icmp .ge 44, 3) := by decide +kernel
theorem dX6_nextOnWay_7 : decode cX6_nextOnWay 7 = .ok (.iload_n 1, 1) := by decide +kernel
theorem dX6_nextOnWay_8 : decode cX6_nextOnWay 8 = .ok (.iload_n 2, 1) := by decide +kernel
theorem dX6_nextOnWay_9 : decode cX6_nextOnWay 9 = .ok (.invokestatic 54, 3) := by decide +kernel
theorem dX6_nextOnWay_12 : decode cX6_nextOnWay 12 = .ok (.istore_n 3, 1) := by decide +kernel
theorem dX6_nextOnWay_13 : decode cX6_nextOnWay 13 = .ok (.iload_n 3, 1) := by decide +kernel
theorem dX6_nextOnWay_14 : decode cX6_nextOnWay 14 = .ok (.iconst (-1), 1) := by decide +kernel
theorem dX6_nextOnWay_15 : decode cX6_nextOnWay 15 = .ok (.if_icmp .eq 27, 3) := by decide +kernel
theorem dX6_nextOnWay_18 : decode cX6_nextOnWay 18 = .ok (.aload_n 0, 1) := by decide +kernel
theorem dX6_nextOnWay_19 : decode cX6_nextOnWay 19 = .ok (.getfield 15, 3) := by decide +kernel
theorem dX6_nextOnWay_22 : decode cX6_nextOnWay 22 = .ok (.iload_n 3, 1) := by decide +kernel
theorem dX6_nextOnWay_23 : decode cX6_nextOnWay 23 = .ok (.iaload, 1) := by decide +kernel
theorem dX6_nextOnWay_24 : decode cX6_nextOnWay 24 = .ok (.aload_n 0, 1) := by decide +kernel
theorem dX6_nextOnWay_25 : decode cX6_nextOnWay 25 = .ok (.getfield 9, 3) := by decide +kernel
theorem dX6_nextOnWay_28 : decode cX6_nextOnWay 28 = .ok (.iload_n 1, 1) := by decide +kernel
theorem dX6_nextOnWay_29 : decode cX6_nextOnWay 29 = .ok (.iaload, 1) := by decide +kernel
theorem dX6_nextOnWay_30 : decode cX6_nextOnWay 30 = .ok (.iadd, 1) := by decide +kernel
theorem dX6_nextOnWay_31 : decode cX6_nextOnWay 31 = .ok (.aload_n 0, 1) := by decide +kernel
theorem dX6_nextOnWay_32 : decode cX6_nextOnWay 32 = .ok (.getfield 15, 3) := by decide +kernel
theorem dX6_nextOnWay_35 : decode cX6_nextOnWay 35 = .ok (.iload_n 1, 1) := by decide +kernel
theorem dX6_nextOnWay_36 : decode cX6_nextOnWay 36 = .ok (.iaload, 1) := by decide +kernel
theorem dX6_nextOnWay_37 : decode cX6_nextOnWay 37 = .ok (.if_icmp .ne 5, 3) := by decide +kernel
theorem dX6_nextOnWay_40 : decode cX6_nextOnWay 40 = .ok (.iload_n 3, 1) := by decide +kernel
theorem dX6_nextOnWay_41 : decode cX6_nextOnWay 41 = .ok (.ireturn, 1) := by decide +kernel
theorem dX6_nextOnWay_42 : decode cX6_nextOnWay 42 = .ok (.iinc 2 1, 3) := by decide +kernel
theorem dX6_nextOnWay_45 : decode cX6_nextOnWay 45 = .ok (.goto (-43), 3) := by decide +kernel
theorem dX6_nextOnWay_48 : decode cX6_nextOnWay 48 = .ok (.iload_n 1, 1) := by decide +kernel
theorem dX6_nextOnWay_49 : decode cX6_nextOnWay 49 = .ok (.ireturn, 1) := by decide +kernel
set_option maxRecDepth 20000 in
theorem ggX6_reachedCells_X5_nextOnFoot : GoodIn wsX6_reachedCells wsX5_nextOnFoot := goodIn_r _ [7, 8, 9, 10, 11, 12, 13, 14, 15, 16, 17, 18, 19, 20, 21, 25, 26, 27, 28, 29, 30, 31, 32, 33, 34] (by decide +kernel) (by decide +kernel)
set_option maxRecDepth 20000 in
theorem gX6_reachedCells_X5_nextOnFoot : GoodIn wsX6_reachedCells (wsV RX6 66 RX5 yX5_nextOnFoot wsX5_nextOnFoot) := goodIn_app (goodIn_of _ (by decide +kernel)) ggX6_reachedCells_X5_nextOnFoot
set_option maxRecDepth 20000 in
theorem ggX6_reachedCells_X7_bitOf : GoodIn wsX6_reachedCells wsX7_bitOf := goodIn_r _ [24] (by decide +kernel) (by decide +kernel)
set_option maxRecDepth 20000 in
theorem gX6_reachedCells_X7_bitOf_n69 : GoodIn wsX6_reachedCells (wsX7_bitOf) := ggX6_reachedCells_X7_bitOf
theorem dX6_reachedCells_0 : decode cX6_reachedCells 0 = .ok (.lconst 1, 1) := by decide +kernel
theorem dX6_reachedCells_1 : decode cX6_reachedCells 1 = .ok (.aload_n 1, 1) := by decide +kernel
theorem dX6_reachedCells_2 : decode cX6_reachedCells 2 = .ok (.getfield 62, 3) := by decide +kernel
theorem dX6_reachedCells_5 : decode cX6_reachedCells 5 = .ok (.lshl, 1) := by decide +kernel
theorem dX6_reachedCells_6 : decode cX6_reachedCells 6 = .ok (.lstore_n 2, 1) := by decide +kernel
theorem dX6_reachedCells_7 : decode cX6_reachedCells 7 = .ok (.iconst 1, 1) := by decide +kernel
theorem dX6_reachedCells_8 : decode cX6_reachedCells 8 = .ok (.istore 4, 2) := by decide +kernel
theorem dX6_reachedCells_10 : decode cX6_reachedCells 10 = .ok (.aload_n 0, 1) := by decide +kernel
theorem dX6_reachedCells_11 : decode cX6_reachedCells 11 = .ok (.getfield 22, 3) := by decide +kernel
theorem dX6_reachedCells_14 : decode cX6_reachedCells 14 = .ok (.iconst 0, 1) := by decide +kernel
theorem dX6_reachedCells_15 : decode cX6_reachedCells 15 = .ok (.aload_n 1, 1) := by decide +kernel
theorem dX6_reachedCells_16 : decode cX6_reachedCells 16 = .ok (.getfield 62, 3) := by decide +kernel
theorem dX6_reachedCells_19 : decode cX6_reachedCells 19 = .ok (.iastore, 1) := by decide +kernel
theorem dX6_reachedCells_20 : decode cX6_reachedCells 20 = .ok (.iconst 0, 1) := by decide +kernel
theorem dX6_reachedCells_21 : decode cX6_reachedCells 21 = .ok (.istore 5, 2) := by decide +kernel
theorem dX6_reachedCells_23 : decode cX6_reachedCells 23 = .ok (.iload 5, 2) := by decide +kernel
theorem dX6_reachedCells_25 : decode cX6_reachedCells 25 = .ok (.iload 4, 2) := by decide +kernel
theorem dX6_reachedCells_27 : decode cX6_reachedCells 27 = .ok (.if_icmp .ge 87, 3) := by decide +kernel
theorem dX6_reachedCells_30 : decode cX6_reachedCells 30 = .ok (.iload 5, 2) := by decide +kernel
theorem dX6_reachedCells_32 : decode cX6_reachedCells 32 = .ok (.bipush 64, 2) := by decide +kernel
theorem dX6_reachedCells_34 : decode cX6_reachedCells 34 = .ok (.if_icmp .ge 80, 3) := by decide +kernel
theorem dX6_reachedCells_37 : decode cX6_reachedCells 37 = .ok (.iconst 0, 1) := by decide +kernel
theorem dX6_reachedCells_38 : decode cX6_reachedCells 38 = .ok (.istore 6, 2) := by decide +kernel
theorem dX6_reachedCells_40 : decode cX6_reachedCells 40 = .ok (.iload 6, 2) := by decide +kernel
theorem dX6_reachedCells_42 : decode cX6_reachedCells 42 = .ok (.iconst 4, 1) := by decide +kernel
theorem dX6_reachedCells_43 : decode cX6_reachedCells 43 = .ok (.if_icmp .ge 65, 3) := by decide +kernel
theorem dX6_reachedCells_46 : decode cX6_reachedCells 46 = .ok (.aload_n 1, 1) := by decide +kernel
theorem dX6_reachedCells_47 : decode cX6_reachedCells 47 = .ok (.aload_n 0, 1) := by decide +kernel
theorem dX6_reachedCells_48 : decode cX6_reachedCells 48 = .ok (.getfield 22, 3) := by decide +kernel
theorem dX6_reachedCells_51 : decode cX6_reachedCells 51 = .ok (.iload 5, 2) := by decide +kernel
theorem dX6_reachedCells_53 : decode cX6_reachedCells 53 = .ok (.iaload, 1) := by decide +kernel
theorem dX6_reachedCells_54 : decode cX6_reachedCells 54 = .ok (.iload 6, 2) := by decide +kernel
theorem dX6_reachedCells_56 : decode cX6_reachedCells 56 = .ok (.invokevirtual 66, 3) := by decide +kernel
theorem dX6_reachedCells_59 : decode cX6_reachedCells 59 = .ok (.istore 7, 2) := by decide +kernel
theorem dX6_reachedCells_61 : decode cX6_reachedCells 61 = .ok (.iload 7, 2) := by decide +kernel
theorem dX6_reachedCells_63 : decode cX6_reachedCells 63 = .ok (.iconst (-1), 1) := by decide +kernel
theorem dX6_reachedCells_64 : decode cX6_reachedCells 64 = .ok (.if_icmp .eq 38, 3) := by decide +kernel
theorem dX6_reachedCells_67 : decode cX6_reachedCells 67 = .ok (.lload_n 2, 1) := by decide +kernel
theorem dX6_reachedCells_68 : decode cX6_reachedCells 68 = .ok (.iload 7, 2) := by decide +kernel
theorem dX6_reachedCells_70 : decode cX6_reachedCells 70 = .ok (.invokestatic 69, 3) := by decide +kernel
theorem dX6_reachedCells_73 : decode cX6_reachedCells 73 = .ok (.ifCond .ne 29, 3) := by decide +kernel
theorem dX6_reachedCells_76 : decode cX6_reachedCells 76 = .ok (.iload 4, 2) := by decide +kernel
theorem dX6_reachedCells_78 : decode cX6_reachedCells 78 = .ok (.bipush 64, 2) := by decide +kernel
theorem dX6_reachedCells_80 : decode cX6_reachedCells 80 = .ok (.if_icmp .ge 22, 3) := by decide +kernel
theorem dX6_reachedCells_83 : decode cX6_reachedCells 83 = .ok (.lload_n 2, 1) := by decide +kernel
theorem dX6_reachedCells_84 : decode cX6_reachedCells 84 = .ok (.lconst 1, 1) := by decide +kernel
theorem dX6_reachedCells_85 : decode cX6_reachedCells 85 = .ok (.iload 7, 2) := by decide +kernel
theorem dX6_reachedCells_87 : decode cX6_reachedCells 87 = .ok (.lshl, 1) := by decide +kernel
theorem dX6_reachedCells_88 : decode cX6_reachedCells 88 = .ok (.lor, 1) := by decide +kernel
theorem dX6_reachedCells_89 : decode cX6_reachedCells 89 = .ok (.lstore_n 2, 1) := by decide +kernel
theorem dX6_reachedCells_90 : decode cX6_reachedCells 90 = .ok (.aload_n 0, 1) := by decide +kernel
theorem dX6_reachedCells_91 : decode cX6_reachedCells 91 = .ok (.getfield 22, 3) := by decide +kernel
theorem dX6_reachedCells_94 : decode cX6_reachedCells 94 = .ok (.iload 4, 2) := by decide +kernel
theorem dX6_reachedCells_96 : decode cX6_reachedCells 96 = .ok (.iload 7, 2) := by decide +kernel
theorem dX6_reachedCells_98 : decode cX6_reachedCells 98 = .ok (.iastore, 1) := by decide +kernel
theorem dX6_reachedCells_99 : decode cX6_reachedCells 99 = .ok (.iinc 4 1, 3) := by decide +kernel
theorem dX6_reachedCells_102 : decode cX6_reachedCells 102 = .ok (.iinc 6 1, 3) := by decide +kernel
theorem dX6_reachedCells_105 : decode cX6_reachedCells 105 = .ok (.goto (-65), 3) := by decide +kernel
theorem dX6_reachedCells_108 : decode cX6_reachedCells 108 = .ok (.iinc 5 1, 3) := by decide +kernel
theorem dX6_reachedCells_111 : decode cX6_reachedCells 111 = .ok (.goto (-88), 3) := by decide +kernel
theorem dX6_reachedCells_114 : decode cX6_reachedCells 114 = .ok (.iload 4, 2) := by decide +kernel
theorem dX6_reachedCells_116 : decode cX6_reachedCells 116 = .ok (.ireturn, 1) := by decide +kernel
set_option maxRecDepth 20000 in
theorem ggX7_init_X5_init : GoodIn wsX7_init wsX5_init := goodIn_r _ [28, 29, 2, 3, 30, 31, 32, 33, 34, 35, 36, 134, 135, 136, 137, 138, 139, 140, 141, 142, 143] (by decide +kernel) (by decide +kernel)
set_option maxRecDepth 20000 in
theorem gX7_init_X5_init_n9 : GoodIn wsX7_init (wsX5_init) := ggX7_init_X5_init
set_option maxRecDepth 20000 in
theorem ggX7_init_X2_init : GoodIn wsX7_init wsX2_init := goodIn_r _ [38, 39, 2, 3, 40, 41, 42, 43, 30, 44, 45, 46, 47, 162, 163, 164, 165, 166, 167, 168, 144, 145] (by decide +kernel) (by decide +kernel)
set_option maxRecDepth 20000 in
theorem gX7_init_X2_init_n12 : GoodIn wsX7_init (wsX2_init) := ggX7_init_X2_init
set_option maxRecDepth 20000 in
theorem ggX7_init_X2_seenCells : GoodIn wsX7_init wsX2_seenCells := goodIn_r _ [51, 44, 52, 43, 53, 54, 55, 56, 57, 9, 58, 59, 60, 61, 62, 63, 64, 65, 66, 67, 68, 69, 70, 71, 72, 73, 74, 75, 76, 77, 78, 79, 42, 80, 81, 82, 83, 84, 85, 86, 87, 88, 89, 90, 91, 92, 93, 94, 95, 96, 97, 98, 99, 100, 101, 102, 103, 104, 105, 106, 107, 108, 109, 110, 111, 112, 113, 114, 144, 145, 134, 135, 136, 137, 138, 139, 140, 141, 142, 143, 162, 163, 164, 165, 166, 167, 168] (by decide +kernel) (by decide +kernel)
set_option maxRecDepth 20000 in
theorem gX7_init_X2_seenCells : GoodIn wsX7_init (wsV RX7 13 RX2 yX2_seenCells wsX2_seenCells) := goodIn_app (goodIn_of _ (by decide +kernel)) ggX7_init_X2_seenCells
set_option maxRecDepth 20000 in
theorem ggX7_init_X1_init : GoodIn wsX7_init wsX1_init := goodIn_r _ [117, 118, 2, 3, 119, 120, 5, 6, 27, 28, 29, 30, 31, 32, 33, 34, 35, 36, 154, 155, 134, 135, 136, 137, 138, 139, 140, 141, 142, 143] (by decide +kernel) (by decide +kernel)
set_option maxRecDepth 20000 in
theorem gX7_init_X1_init : GoodIn wsX7_init (wsX1_init) := ggX7_init_X1_init
set_option maxRecDepth 20000 in
theorem ggX7_init_X4_init : GoodIn wsX7_init wsX4_init := goodIn_r _ [122, 123, 2, 3, 124, 125, 156, 157] (by decide +kernel) (by decide +kernel)
set_option maxRecDepth 20000 in
theorem gX7_init_X4_init_n46 : GoodIn wsX7_init (wsX4_init) := ggX7_init_X4_init
set_option maxRecDepth 20000 in
theorem ggX7_init_X6_init : GoodIn wsX7_init wsX6_init := goodIn_r _ [127, 128, 2, 3, 30, 129, 130, 131, 132, 133, 158, 159, 160, 161] (by decide +kernel) (by decide +kernel)
set_option maxRecDepth 20000 in
theorem gX7_init_X6_init_n53 : GoodIn wsX7_init (wsX6_init) := ggX7_init_X6_init
theorem dX7_init_0 : decode cX7_init 0 = .ok (.aload_n 0, 1) := by decide +kernel
theorem dX7_init_1 : decode cX7_init 1 = .ok (.invokespecial 1, 3) := by decide +kernel
theorem dX7_init_4 : decode cX7_init 4 = .ok (.new 7, 3) := by decide +kernel
theorem dX7_init_7 : decode cX7_init 7 = .ok (.dup, 1) := by decide +kernel
theorem dX7_init_8 : decode cX7_init 8 = .ok (.invokespecial 9, 3) := by decide +kernel
theorem dX7_init_11 : decode cX7_init 11 = .ok (.astore_n 1, 1) := by decide +kernel
theorem dX7_init_12 : decode cX7_init 12 = .ok (.new 10, 3) := by decide +kernel
theorem dX7_init_15 : decode cX7_init 15 = .ok (.dup, 1) := by decide +kernel
theorem dX7_init_16 : decode cX7_init 16 = .ok (.invokespecial 12, 3) := by decide +kernel
theorem dX7_init_19 : decode cX7_init 19 = .ok (.astore_n 2, 1) := by decide +kernel
theorem dX7_init_20 : decode cX7_init 20 = .ok (.aload_n 1, 1) := by decide +kernel
theorem dX7_init_21 : decode cX7_init 21 = .ok (.aload_n 2, 1) := by decide +kernel
theorem dX7_init_22 : decode cX7_init 22 = .ok (.aload_n 1, 1) := by decide +kernel
theorem dX7_init_23 : decode cX7_init 23 = .ok (.invokevirtual 13, 3) := by decide +kernel
theorem dX7_init_26 : decode cX7_init 26 = .ok (.putfield 17, 3) := by decide +kernel
theorem dX7_init_29 : decode cX7_init 29 = .ok (.aload_n 0, 1) := by decide +kernel
theorem dX7_init_30 : decode cX7_init 30 = .ok (.aload_n 1, 1) := by decide +kernel
theorem dX7_init_31 : decode cX7_init 31 = .ok (.putfield 21, 3) := by decide +kernel
theorem dX7_init_34 : decode cX7_init 34 = .ok (.aload_n 0, 1) := by decide +kernel
theorem dX7_init_35 : decode cX7_init 35 = .ok (.aload_n 2, 1) := by decide +kernel
theorem dX7_init_36 : decode cX7_init 36 = .ok (.putfield 27, 3) := by decide +kernel
theorem dX7_init_39 : decode cX7_init 39 = .ok (.aload_n 0, 1) := by decide +kernel
theorem dX7_init_40 : decode cX7_init 40 = .ok (.new 7, 3) := by decide +kernel
theorem dX7_init_43 : decode cX7_init 43 = .ok (.dup, 1) := by decide +kernel
theorem dX7_init_44 : decode cX7_init 44 = .ok (.invokespecial 9, 3) := by decide +kernel
theorem dX7_init_47 : decode cX7_init 47 = .ok (.putfield 31, 3) := by decide +kernel
theorem dX7_init_50 : decode cX7_init 50 = .ok (.aload_n 0, 1) := by decide +kernel
theorem dX7_init_51 : decode cX7_init 51 = .ok (.new 7, 3) := by decide +kernel
theorem dX7_init_54 : decode cX7_init 54 = .ok (.dup, 1) := by decide +kernel
theorem dX7_init_55 : decode cX7_init 55 = .ok (.invokespecial 9, 3) := by decide +kernel
theorem dX7_init_58 : decode cX7_init 58 = .ok (.putfield 34, 3) := by decide +kernel
theorem dX7_init_61 : decode cX7_init 61 = .ok (.aload_n 0, 1) := by decide +kernel
theorem dX7_init_62 : decode cX7_init 62 = .ok (.new 37, 3) := by decide +kernel
theorem dX7_init_65 : decode cX7_init 65 = .ok (.dup, 1) := by decide +kernel
theorem dX7_init_66 : decode cX7_init 66 = .ok (.invokespecial 39, 3) := by decide +kernel
theorem dX7_init_69 : decode cX7_init 69 = .ok (.putfield 40, 3) := by decide +kernel
theorem dX7_init_72 : decode cX7_init 72 = .ok (.aload_n 0, 1) := by decide +kernel
theorem dX7_init_73 : decode cX7_init 73 = .ok (.new 44, 3) := by decide +kernel
theorem dX7_init_76 : decode cX7_init 76 = .ok (.dup, 1) := by decide +kernel
theorem dX7_init_77 : decode cX7_init 77 = .ok (.invokespecial 46, 3) := by decide +kernel
theorem dX7_init_80 : decode cX7_init 80 = .ok (.putfield 47, 3) := by decide +kernel
theorem dX7_init_83 : decode cX7_init 83 = .ok (.aload_n 0, 1) := by decide +kernel
theorem dX7_init_84 : decode cX7_init 84 = .ok (.new 51, 3) := by decide +kernel
theorem dX7_init_87 : decode cX7_init 87 = .ok (.dup, 1) := by decide +kernel
theorem dX7_init_88 : decode cX7_init 88 = .ok (.invokespecial 53, 3) := by decide +kernel
theorem dX7_init_91 : decode cX7_init 91 = .ok (.putfield 54, 3) := by decide +kernel
theorem dX7_init_94 : decode cX7_init 94 = .ok (.return_, 1) := by decide +kernel
set_option maxRecDepth 20000 in
theorem ggX7_put_X0_isCell : GoodIn wsX7_put wsX0_isCell := goodIn_r _ [7] (by decide +kernel) (by decide +kernel)
set_option maxRecDepth 20000 in
theorem gX7_put_X0_isCell : GoodIn wsX7_put (va_wsS RX7 58 yX0_isCell wsX0_isCell) := goodIn_app (goodIn_of _ (by decide +kernel)) ggX7_put_X0_isCell
set_option maxRecDepth 20000 in
theorem ggX7_put_X0_isKind : GoodIn wsX7_put wsX0_isKind := goodIn_r _ [10] (by decide +kernel) (by decide +kernel)
set_option maxRecDepth 20000 in
theorem gX7_put_X0_isKind : GoodIn wsX7_put (va_wsS RX7 64 yX0_isKind wsX0_isKind) := goodIn_app (goodIn_of _ (by decide +kernel)) ggX7_put_X0_isKind
set_option maxRecDepth 20000 in
theorem ggX7_put_X5_wouldTrapWalker : GoodIn wsX7_put wsX5_wouldTrapWalker := goodIn_r _ [15, 16, 17, 18, 6, 19, 152, 153, 154, 155, 156, 157, 158, 159, 160, 161] (by decide +kernel) (by decide +kernel)
set_option maxRecDepth 20000 in
theorem gX7_put_X5_wouldTrapWalker : GoodIn wsX7_put (wsV RX7 67 RX5 yX5_wouldTrapWalker wsX5_wouldTrapWalker) := goodIn_app (goodIn_of _ (by decide +kernel)) ggX7_put_X5_wouldTrapWalker
set_option maxRecDepth 20000 in
theorem ggX7_put_X1_record : GoodIn wsX7_put wsX1_record := goodIn_r _ [24, 25, 26, 27, 28, 29, 23, 30, 31, 32, 33, 14, 34, 35, 36, 37, 38, 39, 40, 41, 42, 43, 16, 44, 45, 46, 47, 162, 163, 152, 153, 154, 155, 156, 157, 158, 159, 160, 161] (by decide +kernel) (by decide +kernel)
set_option maxRecDepth 20000 in
theorem gX7_put_X1_record : GoodIn wsX7_put (wsV RX7 75 RX1 yX1_record wsX1_record) := goodIn_app (goodIn_of _ (by decide +kernel)) ggX7_put_X1_record
set_option maxRecDepth 20000 in
theorem ggX7_put_X5_changeKind : GoodIn wsX7_put wsX5_changeKind := goodIn_r _ [51, 35, 52, 53, 6, 54, 55, 56, 57, 14, 58, 43, 40, 59, 60, 61, 62, 41, 42, 63, 64, 65, 66, 152, 153, 154, 155, 156, 157, 158, 159, 160, 161] (by decide +kernel) (by decide +kernel)
set_option maxRecDepth 20000 in
theorem gX7_put_X5_changeKind : GoodIn wsX7_put (wsV RX7 79 RX5 yX5_changeKind wsX5_changeKind) := goodIn_app (goodIn_of _ (by decide +kernel)) ggX7_put_X5_changeKind
set_option maxRecDepth 20000 in
theorem ggX7_put_X7_rememberSeen : GoodIn wsX7_put wsX7_rememberSeen := goodIn_r _ [71, 1, 72, 73, 74, 75, 76, 77, 78, 79, 80, 81, 82, 83, 84, 85, 86, 87, 88, 89, 90, 91, 92, 93, 94, 95, 96, 97, 98, 99, 100, 6, 101, 102, 103, 104, 105, 106, 107, 108, 109, 110, 111, 112, 113, 114, 115, 116, 117, 118, 119, 120, 121, 122, 123, 124, 125, 126, 127, 128, 129, 130, 131, 132, 133, 134, 135, 136, 137, 138, 139, 140, 141, 142, 143, 144, 145, 146, 147, 148, 149, 150, 151, 152, 153, 154, 155, 156, 157, 158, 159, 160, 161, 164, 165, 166, 167, 168, 169, 170, 171, 172] (by decide +kernel) (by decide +kernel)
set_option maxRecDepth 20000 in
theorem gX7_put_X7_rememberSeen : GoodIn wsX7_put (wsV RX7 83 RX7 yX7_rememberSeen wsX7_rememberSeen) := goodIn_app (goodIn_of _ (by decide +kernel)) ggX7_put_X7_rememberSeen
theorem dX7_put_0 : decode cX7_put 0 = .ok (.iload_n 1, 1) := by decide +kernel
theorem dX7_put_1 : decode cX7_put 1 = .ok (.invokestatic 58, 3) := by decide +kernel
theorem dX7_put_4 : decode cX7_put 4 = .ok (.ifCond .eq 10, 3) := by decide +kernel
theorem dX7_put_7 : decode cX7_put 7 = .ok (.iload_n 2, 1) := by decide +kernel
theorem dX7_put_8 : decode cX7_put 8 = .ok (.invokestatic 64, 3) := by decide +kernel
theorem dX7_put_11 : decode cX7_put 11 = .ok (.ifCond .ne 5, 3) := by decide +kernel
theorem dX7_put_14 : decode cX7_put 14 = .ok (.iconst (-1), 1) := by decide +kernel
theorem dX7_put_15 : decode cX7_put 15 = .ok (.ireturn, 1) := by decide +kernel
theorem dX7_put_16 : decode cX7_put 16 = .ok (.aload_n 0, 1) := by decide +kernel
theorem dX7_put_17 : decode cX7_put 17 = .ok (.getfield 21, 3) := by decide +kernel
theorem dX7_put_20 : decode cX7_put 20 = .ok (.iload_n 1, 1) := by decide +kernel
theorem dX7_put_21 : decode cX7_put 21 = .ok (.iload_n 2, 1) := by decide +kernel
theorem dX7_put_22 : decode cX7_put 22 = .ok (.invokevirtual 67, 3) := by decide +kernel
theorem dX7_put_25 : decode cX7_put 25 = .ok (.ifCond .eq 6, 3) := by decide +kernel
theorem dX7_put_28 : decode cX7_put 28 = .ok (.bipush (-2), 2) := by decide +kernel
theorem dX7_put_30 : decode cX7_put 30 = .ok (.ireturn, 1) := by decide +kernel
theorem dX7_put_31 : decode cX7_put 31 = .ok (.aload_n 0, 1) := by decide +kernel
theorem dX7_put_32 : decode cX7_put 32 = .ok (.getfield 21, 3) := by decide +kernel
theorem dX7_put_35 : decode cX7_put 35 = .ok (.getfield 71, 3) := by decide +kernel
theorem dX7_put_38 : decode cX7_put 38 = .ok (.iload_n 1, 1) := by decide +kernel
theorem dX7_put_39 : decode cX7_put 39 = .ok (.iaload, 1) := by decide +kernel
theorem dX7_put_40 : decode cX7_put 40 = .ok (.istore_n 3, 1) := by decide +kernel
theorem dX7_put_41 : decode cX7_put 41 = .ok (.aload_n 0, 1) := by decide +kernel
theorem dX7_put_42 : decode cX7_put 42 = .ok (.getfield 40, 3) := by decide +kernel
theorem dX7_put_45 : decode cX7_put 45 = .ok (.aload_n 0, 1) := by decide +kernel
theorem dX7_put_46 : decode cX7_put 46 = .ok (.getfield 21, 3) := by decide +kernel
theorem dX7_put_49 : decode cX7_put 49 = .ok (.invokevirtual 75, 3) := by decide +kernel
theorem dX7_put_52 : decode cX7_put 52 = .ok (.aload_n 0, 1) := by decide +kernel
theorem dX7_put_53 : decode cX7_put 53 = .ok (.getfield 21, 3) := by decide +kernel
theorem dX7_put_56 : decode cX7_put 56 = .ok (.iload_n 1, 1) := by decide +kernel
theorem dX7_put_57 : decode cX7_put 57 = .ok (.iload_n 2, 1) := by decide +kernel
theorem dX7_put_58 : decode cX7_put 58 = .ok (.invokevirtual 79, 3) := by decide +kernel
theorem dX7_put_61 : decode cX7_put 61 = .ok (.aload_n 0, 1) := by decide +kernel
theorem dX7_put_62 : decode cX7_put 62 = .ok (.invokevirtual 83, 3) := by decide +kernel
theorem dX7_put_65 : decode cX7_put 65 = .ok (.iload_n 3, 1) := by decide +kernel
theorem dX7_put_66 : decode cX7_put 66 = .ok (.ireturn, 1) := by decide +kernel
set_option maxRecDepth 20000 in
theorem ggX7_lamp_X0_isCell : GoodIn wsX7_lamp wsX0_isCell := goodIn_r _ [7] (by decide +kernel) (by decide +kernel)
set_option maxRecDepth 20000 in
theorem gX7_lamp_X0_isCell : GoodIn wsX7_lamp (va_wsS RX7 58 yX0_isCell wsX0_isCell) := goodIn_app (goodIn_of _ (by decide +kernel)) ggX7_lamp_X0_isCell
set_option maxRecDepth 20000 in
theorem ggX7_lamp_X7_isWithin : GoodIn wsX7_lamp wsX7_isWithin := goodIn_r _ [11] (by decide +kernel) (by decide +kernel)
set_option maxRecDepth 20000 in
theorem gX7_lamp_X7_isWithin : GoodIn wsX7_lamp (va_wsS RX7 86 yX7_isWithin wsX7_isWithin) := goodIn_app (goodIn_of _ (by decide +kernel)) ggX7_lamp_X7_isWithin
set_option maxRecDepth 20000 in
theorem ggX7_lamp_X5_hasRoomForLamp : GoodIn wsX7_lamp wsX5_hasRoomForLamp := goodIn_r _ [16, 17, 18, 19, 6, 20, 21, 22, 23, 15, 24, 25, 26, 141, 142, 143, 144, 145, 146, 147, 148, 149, 150] (by decide +kernel) (by decide +kernel)
set_option maxRecDepth 20000 in
theorem gX7_lamp_X5_hasRoomForLamp : GoodIn wsX7_lamp (wsV RX7 90 RX5 yX5_hasRoomForLamp wsX5_hasRoomForLamp) := goodIn_app (goodIn_of _ (by decide +kernel)) ggX7_lamp_X5_hasRoomForLamp
set_option maxRecDepth 20000 in
theorem ggX7_lamp_X1_record : GoodIn wsX7_lamp wsX1_record := goodIn_r _ [31, 32, 33, 34, 35, 36, 30, 37, 38, 39, 40, 15, 41, 17, 42, 43, 44, 45, 26, 46, 47, 25, 48, 49, 50, 51, 52, 151, 152, 141, 142, 143, 144, 145, 146, 147, 148, 149, 150] (by decide +kernel) (by decide +kernel)
set_option maxRecDepth 20000 in
theorem gX7_lamp_X1_record : GoodIn wsX7_lamp (wsV RX7 75 RX1 yX1_record wsX1_record) := goodIn_app (goodIn_of _ (by decide +kernel)) ggX7_lamp_X1_record
set_option maxRecDepth 20000 in
theorem ggX7_lamp_X5_addLamp : GoodIn wsX7_lamp wsX5_addLamp := goodIn_r _ [56, 25, 26, 46, 47, 141, 142, 143, 144, 145, 146, 147, 148, 149, 150] (by decide +kernel) (by decide +kernel)
set_option maxRecDepth 20000 in
theorem gX7_lamp_X5_addLamp : GoodIn wsX7_lamp (wsV RX7 97 RX5 yX5_addLamp wsX5_addLamp) := goodIn_app (goodIn_of _ (by decide +kernel)) ggX7_lamp_X5_addLamp
set_option maxRecDepth 20000 in
theorem ggX7_lamp_X7_rememberSeen : GoodIn wsX7_lamp wsX7_rememberSeen := goodIn_r _ [60, 1, 61, 62, 63, 64, 65, 66, 67, 68, 69, 70, 71, 72, 73, 74, 75, 76, 77, 78, 79, 80, 81, 82, 83, 84, 85, 86, 87, 88, 89, 6, 90, 91, 92, 93, 94, 95, 96, 97, 98, 99, 100, 101, 102, 103, 104, 105, 106, 107, 108, 109, 110, 111, 112, 113, 114, 115, 116, 117, 118, 119, 120, 121, 122, 123, 124, 125, 126, 127, 128, 129, 130, 131, 132, 133, 134, 135, 136, 137, 138, 139, 140, 141, 142, 143, 144, 145, 146, 147, 148, 149, 150, 153, 154, 155, 156, 157, 158, 159, 160, 161] (by decide +kernel) (by decide +kernel)
set_option maxRecDepth 20000 in
theorem gX7_lamp_X7_rememberSeen : GoodIn wsX7_lamp (wsV RX7 83 RX7 yX7_rememberSeen wsX7_rememberSeen) := goodIn_app (goodIn_of _ (by decide +kernel)) ggX7_lamp_X7_rememberSeen
theorem dX7_lamp_0 : decode cX7_lamp 0 = .ok (.iload_n 1, 1) := by decide +kernel
theorem dX7_lamp_1 : decode cX7_lamp 1 = .ok (.invokestatic 58, 3) := by decide +kernel
theorem dX7_lamp_4 : decode cX7_lamp 4 = .ok (.ifCond .eq 23, 3) := by decide +kernel
theorem dX7_lamp_7 : decode cX7_lamp 7 = .ok (.iload_n 2, 1) := by decide +kernel
theorem dX7_lamp_8 : decode cX7_lamp 8 = .ok (.iconst 1, 1) := by decide +kernel
theorem dX7_lamp_9 : decode cX7_lamp 9 = .ok (.bipush 9, 2) := by decide +kernel
theorem dX7_lamp_11 : decode cX7_lamp 11 = .ok (.invokestatic 86, 3) := by decide +kernel
theorem dX7_lamp_14 : decode cX7_lamp 14 = .ok (.ifCond .eq 13, 3) := by decide +kernel
theorem dX7_lamp_17 : decode cX7_lamp 17 = .ok (.iload_n 3, 1) := by decide +kernel
theorem dX7_lamp_18 : decode cX7_lamp 18 = .ok (.iconst 1, 1) := by decide +kernel
theorem dX7_lamp_19 : decode cX7_lamp 19 = .ok (.bipush 99, 2) := by decide +kernel
theorem dX7_lamp_21 : decode cX7_lamp 21 = .ok (.invokestatic 86, 3) := by decide +kernel
theorem dX7_lamp_24 : decode cX7_lamp 24 = .ok (.ifCond .ne 5, 3) := by decide +kernel
theorem dX7_lamp_27 : decode cX7_lamp 27 = .ok (.iconst (-1), 1) := by decide +kernel
theorem dX7_lamp_28 : decode cX7_lamp 28 = .ok (.ireturn, 1) := by decide +kernel
theorem dX7_lamp_29 : decode cX7_lamp 29 = .ok (.aload_n 0, 1) := by decide +kernel
theorem dX7_lamp_30 : decode cX7_lamp 30 = .ok (.getfield 21, 3) := by decide +kernel
theorem dX7_lamp_33 : decode cX7_lamp 33 = .ok (.iload_n 1, 1) := by decide +kernel
theorem dX7_lamp_34 : decode cX7_lamp 34 = .ok (.invokevirtual 90, 3) := by decide +kernel
theorem dX7_lamp_37 : decode cX7_lamp 37 = .ok (.ifCond .ne 6, 3) := by decide +kernel
theorem dX7_lamp_40 : decode cX7_lamp 40 = .ok (.bipush (-2), 2) := by decide +kernel
theorem dX7_lamp_42 : decode cX7_lamp 42 = .ok (.ireturn, 1) := by decide +kernel
theorem dX7_lamp_43 : decode cX7_lamp 43 = .ok (.aload_n 0, 1) := by decide +kernel
theorem dX7_lamp_44 : decode cX7_lamp 44 = .ok (.getfield 21, 3) := by decide +kernel
theorem dX7_lamp_47 : decode cX7_lamp 47 = .ok (.getfield 93, 3) := by decide +kernel
theorem dX7_lamp_50 : decode cX7_lamp 50 = .ok (.bipush 6, 2) := by decide +kernel
theorem dX7_lamp_52 : decode cX7_lamp 52 = .ok (.if_icmp .lt 6, 3) := by decide +kernel
theorem dX7_lamp_55 : decode cX7_lamp 55 = .ok (.bipush (-3), 2) := by decide +kernel
theorem dX7_lamp_57 : decode cX7_lamp 57 = .ok (.ireturn, 1) := by decide +kernel
theorem dX7_lamp_58 : decode cX7_lamp 58 = .ok (.aload_n 0, 1) := by decide +kernel
theorem dX7_lamp_59 : decode cX7_lamp 59 = .ok (.getfield 40, 3) := by decide +kernel
theorem dX7_lamp_62 : decode cX7_lamp 62 = .ok (.aload_n 0, 1) := by decide +kernel
theorem dX7_lamp_63 : decode cX7_lamp 63 = .ok (.getfield 21, 3) := by decide +kernel
theorem dX7_lamp_66 : decode cX7_lamp 66 = .ok (.invokevirtual 75, 3) := by decide +kernel
theorem dX7_lamp_69 : decode cX7_lamp 69 = .ok (.aload_n 0, 1) := by decide +kernel
theorem dX7_lamp_70 : decode cX7_lamp 70 = .ok (.getfield 21, 3) := by decide +kernel
theorem dX7_lamp_73 : decode cX7_lamp 73 = .ok (.iload_n 1, 1) := by decide +kernel
theorem dX7_lamp_74 : decode cX7_lamp 74 = .ok (.iload_n 2, 1) := by decide +kernel
theorem dX7_lamp_75 : decode cX7_lamp 75 = .ok (.iload_n 3, 1) := by decide +kernel
theorem dX7_lamp_76 : decode cX7_lamp 76 = .ok (.invokevirtual 97, 3) := by decide +kernel
theorem dX7_lamp_79 : decode cX7_lamp 79 = .ok (.aload_n 0, 1) := by decide +kernel
theorem dX7_lamp_80 : decode cX7_lamp 80 = .ok (.invokevirtual 83, 3) := by decide +kernel
theorem dX7_lamp_83 : decode cX7_lamp 83 = .ok (.aload_n 0, 1) := by decide +kernel
theorem dX7_lamp_84 : decode cX7_lamp 84 = .ok (.getfield 21, 3) := by decide +kernel
theorem dX7_lamp_87 : decode cX7_lamp 87 = .ok (.getfield 93, 3) := by decide +kernel
theorem dX7_lamp_90 : decode cX7_lamp 90 = .ok (.iconst 1, 1) := by decide +kernel
theorem dX7_lamp_91 : decode cX7_lamp 91 = .ok (.isub, 1) := by decide +kernel
theorem dX7_lamp_92 : decode cX7_lamp 92 = .ok (.ireturn, 1) := by decide +kernel
set_option maxRecDepth 20000 in
theorem ggX7_takeLamp_X5_isLamp : GoodIn wsX7_takeLamp wsX5_isLamp := goodIn_r _ [8, 9, 129, 130, 131, 132, 133, 134, 135, 136, 137, 138] (by decide +kernel) (by decide +kernel)
set_option maxRecDepth 20000 in
theorem gX7_takeLamp_X5_isLamp : GoodIn wsX7_takeLamp (wsV RX7 101 RX5 yX5_isLamp wsX5_isLamp) := goodIn_app (goodIn_of _ (by decide +kernel)) ggX7_takeLamp_X5_isLamp
set_option maxRecDepth 20000 in
theorem ggX7_takeLamp_X1_record : GoodIn wsX7_takeLamp wsX1_record := goodIn_r _ [14, 15, 16, 17, 18, 19, 13, 20, 21, 22, 23, 7, 24, 25, 26, 27, 28, 29, 30, 31, 32, 9, 33, 34, 35, 36, 37, 139, 140, 129, 130, 131, 132, 133, 134, 135, 136, 137, 138] (by decide +kernel) (by decide +kernel)
set_option maxRecDepth 20000 in
theorem gX7_takeLamp_X1_record : GoodIn wsX7_takeLamp (wsV RX7 75 RX1 yX1_record wsX1_record) := goodIn_app (goodIn_of _ (by decide +kernel)) ggX7_takeLamp_X1_record
set_option maxRecDepth 20000 in
theorem ggX7_takeLamp_X5_removeLamp : GoodIn wsX7_takeLamp wsX5_removeLamp := goodIn_r _ [41, 9, 30, 31, 32, 42, 5, 6, 7, 8, 129, 130, 131, 132, 133, 134, 135, 136, 137, 138] (by decide +kernel) (by decide +kernel)
set_option maxRecDepth 20000 in
theorem gX7_takeLamp_X5_removeLamp : GoodIn wsX7_takeLamp (wsV RX7 107 RX5 yX5_removeLamp wsX5_removeLamp) := goodIn_app (goodIn_of _ (by decide +kernel)) ggX7_takeLamp_X5_removeLamp
set_option maxRecDepth 20000 in
theorem ggX7_takeLamp_X7_rememberSeen : GoodIn wsX7_takeLamp wsX7_rememberSeen := goodIn_r _ [47, 1, 48, 49, 50, 51, 52, 53, 54, 55, 56, 57, 58, 59, 60, 61, 62, 63, 64, 65, 66, 67, 68, 69, 70, 71, 72, 73, 74, 75, 76, 77, 78, 79, 80, 81, 82, 83, 84, 85, 86, 87, 88, 89, 90, 91, 92, 93, 94, 95, 96, 97, 98, 99, 100, 101, 102, 103, 104, 105, 106, 107, 108, 109, 110, 111, 112, 113, 114, 115, 116, 117, 118, 119, 120, 121, 122, 123, 124, 125, 126, 127, 128, 129, 130, 131, 132, 133, 134, 135, 136, 137, 138, 141, 142, 143, 144, 145, 146, 147, 148, 149] (by decide +kernel) (by decide +kernel)
set_option maxRecDepth 20000 in
theorem gX7_takeLamp_X7_rememberSeen : GoodIn wsX7_takeLamp (wsV RX7 83 RX7 yX7_rememberSeen wsX7_rememberSeen) := goodIn_app (goodIn_of _ (by decide +kernel)) ggX7_takeLamp_X7_rememberSeen
theorem dX7_takeLamp_0 : decode cX7_takeLamp 0 = .ok (.aload_n 0, 1) := by decide +kernel
theorem dX7_takeLamp_1 : decode cX7_takeLamp 1 = .ok (.getfield 21, 3) := by decide +kernel
theorem dX7_takeLamp_4 : decode cX7_takeLamp 4 = .ok (.iload_n 1, 1) := by decide +kernel
theorem dX7_takeLamp_5 : decode cX7_takeLamp 5 = .ok (.invokevirtual 101, 3) := by decide +kernel
theorem dX7_takeLamp_8 : decode cX7_takeLamp 8 = .ok (.ifCond .ne 5, 3) := by decide +kernel
theorem dX7_takeLamp_11 : decode cX7_takeLamp 11 = .ok (.iconst (-1), 1) := by decide +kernel
theorem dX7_takeLamp_12 : decode cX7_takeLamp 12 = .ok (.ireturn, 1) := by decide +kernel
theorem dX7_takeLamp_13 : decode cX7_takeLamp 13 = .ok (.aload_n 0, 1) := by decide +kernel
theorem dX7_takeLamp_14 : decode cX7_takeLamp 14 = .ok (.getfield 21, 3) := by decide +kernel
theorem dX7_takeLamp_17 : decode cX7_takeLamp 17 = .ok (.getfield 104, 3) := by decide +kernel
theorem dX7_takeLamp_20 : decode cX7_takeLamp 20 = .ok (.iload_n 1, 1) := by decide +kernel
theorem dX7_takeLamp_21 : decode cX7_takeLamp 21 = .ok (.iaload, 1) := by decide +kernel
theorem dX7_takeLamp_22 : decode cX7_takeLamp 22 = .ok (.istore_n 2, 1) := by decide +kernel
theorem dX7_takeLamp_23 : decode cX7_takeLamp 23 = .ok (.aload_n 0, 1) := by decide +kernel
theorem dX7_takeLamp_24 : decode cX7_takeLamp 24 = .ok (.getfield 40, 3) := by decide +kernel
theorem dX7_takeLamp_27 : decode cX7_takeLamp 27 = .ok (.aload_n 0, 1) := by decide +kernel
theorem dX7_takeLamp_28 : decode cX7_takeLamp 28 = .ok (.getfield 21, 3) := by decide +kernel
theorem dX7_takeLamp_31 : decode cX7_takeLamp 31 = .ok (.invokevirtual 75, 3) := by decide +kernel
theorem dX7_takeLamp_34 : decode cX7_takeLamp 34 = .ok (.aload_n 0, 1) := by decide +kernel
theorem dX7_takeLamp_35 : decode cX7_takeLamp 35 = .ok (.getfield 21, 3) := by decide +kernel
theorem dX7_takeLamp_38 : decode cX7_takeLamp 38 = .ok (.iload_n 1, 1) := by decide +kernel
theorem dX7_takeLamp_39 : decode cX7_takeLamp 39 = .ok (.invokevirtual 107, 3) := by decide +kernel
theorem dX7_takeLamp_42 : decode cX7_takeLamp 42 = .ok (.aload_n 0, 1) := by decide +kernel
theorem dX7_takeLamp_43 : decode cX7_takeLamp 43 = .ok (.invokevirtual 83, 3) := by decide +kernel
theorem dX7_takeLamp_46 : decode cX7_takeLamp 46 = .ok (.iload_n 2, 1) := by decide +kernel
theorem dX7_takeLamp_47 : decode cX7_takeLamp 47 = .ok (.ireturn, 1) := by decide +kernel
set_option maxRecDepth 20000 in
theorem ggX7_fill_X5_isLamp : GoodIn wsX7_fill wsX5_isLamp := goodIn_r _ [8, 9, 127, 128, 129, 130, 131, 132, 133, 134, 135, 136] (by decide +kernel) (by decide +kernel)
set_option maxRecDepth 20000 in
theorem gX7_fill_X5_isLamp : GoodIn wsX7_fill (wsV RX7 101 RX5 yX5_isLamp wsX5_isLamp) := goodIn_app (goodIn_of _ (by decide +kernel)) ggX7_fill_X5_isLamp
set_option maxRecDepth 20000 in
theorem ggX7_fill_X7_isWithin : GoodIn wsX7_fill wsX7_isWithin := goodIn_r _ [13] (by decide +kernel) (by decide +kernel)
set_option maxRecDepth 20000 in
theorem gX7_fill_X7_isWithin : GoodIn wsX7_fill (va_wsS RX7 86 yX7_isWithin wsX7_isWithin) := goodIn_app (goodIn_of _ (by decide +kernel)) ggX7_fill_X7_isWithin
set_option maxRecDepth 20000 in
theorem ggX7_fill_X1_record : GoodIn wsX7_fill wsX1_record := goodIn_r _ [18, 19, 20, 21, 22, 23, 17, 24, 25, 26, 27, 7, 28, 29, 30, 31, 32, 33, 34, 35, 36, 9, 37, 38, 39, 40, 41, 137, 138, 127, 128, 129, 130, 131, 132, 133, 134, 135, 136] (by decide +kernel) (by decide +kernel)
set_option maxRecDepth 20000 in
theorem gX7_fill_X1_record : GoodIn wsX7_fill (wsV RX7 75 RX1 yX1_record wsX1_record) := goodIn_app (goodIn_of _ (by decide +kernel)) ggX7_fill_X1_record
set_option maxRecDepth 20000 in
theorem ggX7_fill_X7_rememberSeen : GoodIn wsX7_fill wsX7_rememberSeen := goodIn_r _ [45, 1, 46, 47, 48, 49, 50, 51, 52, 53, 54, 55, 56, 57, 58, 59, 60, 61, 62, 63, 64, 65, 66, 67, 68, 69, 70, 71, 72, 73, 74, 75, 76, 77, 78, 79, 80, 81, 82, 83, 84, 85, 86, 87, 88, 89, 90, 91, 92, 93, 94, 95, 96, 97, 98, 99, 100, 101, 102, 103, 104, 105, 106, 107, 108, 109, 110, 111, 112, 113, 114, 115, 116, 117, 118, 119, 120, 121, 122, 123, 124, 125, 126, 127, 128, 129, 130, 131, 132, 133, 134, 135, 136, 139, 140, 141, 142, 143, 144, 145, 146, 147] (by decide +kernel) (by decide +kernel)
set_option maxRecDepth 20000 in
theorem gX7_fill_X7_rememberSeen : GoodIn wsX7_fill (wsV RX7 83 RX7 yX7_rememberSeen wsX7_rememberSeen) := goodIn_app (goodIn_of _ (by decide +kernel)) ggX7_fill_X7_rememberSeen
theorem dX7_fill_0 : decode cX7_fill 0 = .ok (.aload_n 0, 1) := by decide +kernel
theorem dX7_fill_1 : decode cX7_fill 1 = .ok (.getfield 21, 3) := by decide +kernel
theorem dX7_fill_4 : decode cX7_fill 4 = .ok (.iload_n 1, 1) := by decide +kernel
theorem dX7_fill_5 : decode cX7_fill 5 = .ok (.invokevirtual 101, 3) := by decide +kernel
theorem dX7_fill_8 : decode cX7_fill 8 = .ok (.ifCond .eq 13, 3) := by decide +kernel
theorem dX7_fill_11 : decode cX7_fill 11 = .ok (.iload_n 2, 1) := by decide +kernel
theorem dX7_fill_12 : decode cX7_fill 12 = .ok (.iconst 0, 1) := by decide +kernel
theorem dX7_fill_13 : decode cX7_fill 13 = .ok (.bipush 99, 2) := by decide +kernel
theorem dX7_fill_15 : decode cX7_fill 15 = .ok (.invokestatic 86, 3) := by decide +kernel
theorem dX7_fill_18 : decode cX7_fill 18 = .ok (.ifCond .ne 5, 3) := by decide +kernel
theorem dX7_fill_21 : decode cX7_fill 21 = .ok (.iconst (-1), 1) := by decide +kernel
theorem dX7_fill_22 : decode cX7_fill 22 = .ok (.ireturn, 1) := by decide +kernel
theorem dX7_fill_23 : decode cX7_fill 23 = .ok (.aload_n 0, 1) := by decide +kernel
theorem dX7_fill_24 : decode cX7_fill 24 = .ok (.getfield 21, 3) := by decide +kernel
theorem dX7_fill_27 : decode cX7_fill 27 = .ok (.getfield 111, 3) := by decide +kernel
theorem dX7_fill_30 : decode cX7_fill 30 = .ok (.iload_n 1, 1) := by decide +kernel
theorem dX7_fill_31 : decode cX7_fill 31 = .ok (.iaload, 1) := by decide +kernel
theorem dX7_fill_32 : decode cX7_fill 32 = .ok (.istore_n 3, 1) := by decide +kernel
theorem dX7_fill_33 : decode cX7_fill 33 = .ok (.aload_n 0, 1) := by decide +kernel
theorem dX7_fill_34 : decode cX7_fill 34 = .ok (.getfield 40, 3) := by decide +kernel
theorem dX7_fill_37 : decode cX7_fill 37 = .ok (.aload_n 0, 1) := by decide +kernel
theorem dX7_fill_38 : decode cX7_fill 38 = .ok (.getfield 21, 3) := by decide +kernel
theorem dX7_fill_41 : decode cX7_fill 41 = .ok (.invokevirtual 75, 3) := by decide +kernel
theorem dX7_fill_44 : decode cX7_fill 44 = .ok (.aload_n 0, 1) := by decide +kernel
theorem dX7_fill_45 : decode cX7_fill 45 = .ok (.getfield 21, 3) := by decide +kernel
theorem dX7_fill_48 : decode cX7_fill 48 = .ok (.getfield 111, 3) := by decide +kernel
theorem dX7_fill_51 : decode cX7_fill 51 = .ok (.iload_n 1, 1) := by decide +kernel
theorem dX7_fill_52 : decode cX7_fill 52 = .ok (.iload_n 2, 1) := by decide +kernel
theorem dX7_fill_53 : decode cX7_fill 53 = .ok (.iastore, 1) := by decide +kernel
theorem dX7_fill_54 : decode cX7_fill 54 = .ok (.aload_n 0, 1) := by decide +kernel
theorem dX7_fill_55 : decode cX7_fill 55 = .ok (.invokevirtual 83, 3) := by decide +kernel
theorem dX7_fill_58 : decode cX7_fill 58 = .ok (.iload_n 3, 1) := by decide +kernel
theorem dX7_fill_59 : decode cX7_fill 59 = .ok (.ireturn, 1) := by decide +kernel
set_option maxRecDepth 20000 in
theorem ggX7_set_X7_isWithin : GoodIn wsX7_set wsX7_isWithin := goodIn_r _ [8] (by decide +kernel) (by decide +kernel)
set_option maxRecDepth 20000 in
theorem gX7_set_X7_isWithin : GoodIn wsX7_set (va_wsS RX7 86 yX7_isWithin wsX7_isWithin) := goodIn_app (goodIn_of _ (by decide +kernel)) ggX7_set_X7_isWithin
set_option maxRecDepth 20000 in
theorem ggX7_set_X1_record : GoodIn wsX7_set wsX1_record := goodIn_r _ [13, 14, 15, 16, 17, 18, 12, 19, 20, 21, 22, 23, 24, 25, 26, 27, 28, 29, 30, 31, 32, 33, 34, 35, 36, 37, 38, 134, 135, 124, 125, 126, 127, 128, 129, 130, 131, 132, 133] (by decide +kernel) (by decide +kernel)
set_option maxRecDepth 20000 in
theorem gX7_set_X1_record : GoodIn wsX7_set (wsV RX7 75 RX1 yX1_record wsX1_record) := goodIn_app (goodIn_of _ (by decide +kernel)) ggX7_set_X1_record
set_option maxRecDepth 20000 in
theorem ggX7_set_X7_rememberSeen : GoodIn wsX7_set wsX7_rememberSeen := goodIn_r _ [42, 1, 43, 44, 45, 46, 47, 48, 49, 50, 51, 52, 53, 54, 55, 56, 57, 58, 59, 60, 61, 62, 63, 64, 65, 66, 67, 68, 69, 70, 71, 72, 73, 74, 75, 76, 77, 78, 79, 80, 81, 82, 83, 84, 85, 86, 87, 88, 89, 90, 91, 92, 93, 94, 95, 96, 97, 98, 99, 100, 101, 102, 103, 104, 105, 106, 107, 108, 109, 110, 111, 112, 113, 114, 115, 116, 117, 118, 119, 120, 121, 122, 123, 124, 125, 126, 127, 128, 129, 130, 131, 132, 133, 136, 137, 138, 139, 140, 141, 142, 143, 144] (by decide +kernel) (by decide +kernel)
set_option maxRecDepth 20000 in
theorem gX7_set_X7_rememberSeen : GoodIn wsX7_set (wsV RX7 83 RX7 yX7_rememberSeen wsX7_rememberSeen) := goodIn_app (goodIn_of _ (by decide +kernel)) ggX7_set_X7_rememberSeen
theorem dX7_set_0 : decode cX7_set 0 = .ok (.iload_n 1, 1) := by decide +kernel
theorem dX7_set_1 : decode cX7_set 1 = .ok (.ifCond .ne 46, 3) := by decide +kernel
theorem dX7_set_4 : decode cX7_set 4 = .ok (.iload_n 2, 1) := by decide +kernel
theorem dX7_set_5 : decode cX7_set 5 = .ok (.iconst 1, 1) := by decide +kernel
theorem dX7_set_6 : decode cX7_set 6 = .ok (.bipush 20, 2) := by decide +kernel
theorem dX7_set_8 : decode cX7_set 8 = .ok (.invokestatic 86, 3) := by decide +kernel
theorem dX7_set_11 : decode cX7_set 11 = .ok (.ifCond .eq 36, 3) := by decide +kernel
theorem dX7_set_14 : decode cX7_set 14 = .ok (.aload_n 0, 1) := by decide +kernel
theorem dX7_set_15 : decode cX7_set 15 = .ok (.getfield 21, 3) := by decide +kernel
theorem dX7_set_18 : decode cX7_set 18 = .ok (.getfield 114, 3) := by decide +kernel
theorem dX7_set_21 : decode cX7_set 21 = .ok (.istore_n 3, 1) := by decide +kernel
theorem dX7_set_22 : decode cX7_set 22 = .ok (.aload_n 0, 1) := by decide +kernel
theorem dX7_set_23 : decode cX7_set 23 = .ok (.getfield 40, 3) := by decide +kernel
theorem dX7_set_26 : decode cX7_set 26 = .ok (.aload_n 0, 1) := by decide +kernel
theorem dX7_set_27 : decode cX7_set 27 = .ok (.getfield 21, 3) := by decide +kernel
theorem dX7_set_30 : decode cX7_set 30 = .ok (.invokevirtual 75, 3) := by decide +kernel
theorem dX7_set_33 : decode cX7_set 33 = .ok (.aload_n 0, 1) := by decide +kernel
theorem dX7_set_34 : decode cX7_set 34 = .ok (.getfield 21, 3) := by decide +kernel
theorem dX7_set_37 : decode cX7_set 37 = .ok (.iload_n 2, 1) := by decide +kernel
theorem dX7_set_38 : decode cX7_set 38 = .ok (.putfield 114, 3) := by decide +kernel
theorem dX7_set_41 : decode cX7_set 41 = .ok (.aload_n 0, 1) := by decide +kernel
theorem dX7_set_42 : decode cX7_set 42 = .ok (.invokevirtual 83, 3) := by decide +kernel
theorem dX7_set_45 : decode cX7_set 45 = .ok (.iload_n 3, 1) := by decide +kernel
theorem dX7_set_46 : decode cX7_set 46 = .ok (.ireturn, 1) := by decide +kernel
theorem dX7_set_47 : decode cX7_set 47 = .ok (.iload_n 1, 1) := by decide +kernel
theorem dX7_set_48 : decode cX7_set 48 = .ok (.iconst 1, 1) := by decide +kernel
theorem dX7_set_49 : decode cX7_set 49 = .ok (.if_icmp .ne 45, 3) := by decide +kernel
theorem dX7_set_52 : decode cX7_set 52 = .ok (.iload_n 2, 1) := by decide +kernel
theorem dX7_set_53 : decode cX7_set 53 = .ok (.iconst 0, 1) := by decide +kernel
theorem dX7_set_54 : decode cX7_set 54 = .ok (.iconst 4, 1) := by decide +kernel
theorem dX7_set_55 : decode cX7_set 55 = .ok (.invokestatic 86, 3) := by decide +kernel
theorem dX7_set_58 : decode cX7_set 58 = .ok (.ifCond .eq 36, 3) := by decide +kernel
theorem dX7_set_61 : decode cX7_set 61 = .ok (.aload_n 0, 1) := by decide +kernel
theorem dX7_set_62 : decode cX7_set 62 = .ok (.getfield 21, 3) := by decide +kernel
theorem dX7_set_65 : decode cX7_set 65 = .ok (.getfield 117, 3) := by decide +kernel
theorem dX7_set_68 : decode cX7_set 68 = .ok (.istore_n 3, 1) := by decide +kernel
theorem dX7_set_69 : decode cX7_set 69 = .ok (.aload_n 0, 1) := by decide +kernel
theorem dX7_set_70 : decode cX7_set 70 = .ok (.getfield 40, 3) := by decide +kernel
theorem dX7_set_73 : decode cX7_set 73 = .ok (.aload_n 0, 1) := by decide +kernel
theorem dX7_set_74 : decode cX7_set 74 = .ok (.getfield 21, 3) := by decide +kernel
theorem dX7_set_77 : decode cX7_set 77 = .ok (.invokevirtual 75, 3) := by decide +kernel
theorem dX7_set_80 : decode cX7_set 80 = .ok (.aload_n 0, 1) := by decide +kernel
theorem dX7_set_81 : decode cX7_set 81 = .ok (.getfield 21, 3) := by decide +kernel
theorem dX7_set_84 : decode cX7_set 84 = .ok (.iload_n 2, 1) := by decide +kernel
theorem dX7_set_85 : decode cX7_set 85 = .ok (.putfield 117, 3) := by decide +kernel
theorem dX7_set_88 : decode cX7_set 88 = .ok (.aload_n 0, 1) := by decide +kernel
theorem dX7_set_89 : decode cX7_set 89 = .ok (.invokevirtual 83, 3) := by decide +kernel
theorem dX7_set_92 : decode cX7_set 92 = .ok (.iload_n 3, 1) := by decide +kernel
theorem dX7_set_93 : decode cX7_set 93 = .ok (.ireturn, 1) := by decide +kernel
theorem dX7_set_94 : decode cX7_set 94 = .ok (.iconst (-1), 1) := by decide +kernel
theorem dX7_set_95 : decode cX7_set 95 = .ok (.ireturn, 1) := by decide +kernel
set_option maxRecDepth 20000 in
theorem ggX7_step_X7_isWithin : GoodIn wsX7_step wsX7_isWithin := goodIn_r _ [7] (by decide +kernel) (by decide +kernel)
set_option maxRecDepth 20000 in
theorem gX7_step_X7_isWithin : GoodIn wsX7_step (va_wsS RX7 86 yX7_isWithin wsX7_isWithin) := goodIn_app (goodIn_of _ (by decide +kernel)) ggX7_step_X7_isWithin
set_option maxRecDepth 20000 in
theorem ggX7_step_X5_nextOnFoot : GoodIn wsX7_step wsX5_nextOnFoot := goodIn_r _ [12, 13, 14, 15, 16, 17, 18, 19, 20, 21, 22, 23, 24, 25, 26, 137, 138, 139, 140, 141, 142, 143, 144, 145, 146] (by decide +kernel) (by decide +kernel)
set_option maxRecDepth 20000 in
theorem gX7_step_X5_nextOnFoot : GoodIn wsX7_step (wsV RX7 123 RX5 yX5_nextOnFoot wsX5_nextOnFoot) := goodIn_app (goodIn_of _ (by decide +kernel)) ggX7_step_X5_nextOnFoot
set_option maxRecDepth 20000 in
theorem ggX7_step_X1_record : GoodIn wsX7_step wsX1_record := goodIn_r _ [31, 32, 33, 34, 35, 36, 30, 37, 38, 39, 40, 11, 41, 13, 42, 43, 44, 45, 46, 47, 48, 49, 50, 51, 52, 53, 54, 147, 148, 137, 138, 139, 140, 141, 142, 143, 144, 145, 146] (by decide +kernel) (by decide +kernel)
set_option maxRecDepth 20000 in
theorem gX7_step_X1_record : GoodIn wsX7_step (wsV RX7 75 RX1 yX1_record wsX1_record) := goodIn_app (goodIn_of _ (by decide +kernel)) ggX7_step_X1_record
set_option maxRecDepth 20000 in
theorem ggX7_step_X5_moveWalker : GoodIn wsX7_step wsX5_moveWalker := goodIn_r _ [58, 50, 51, 49, 48, 137, 138, 139, 140, 141, 142, 143, 144, 145, 146] (by decide +kernel) (by decide +kernel)
set_option maxRecDepth 20000 in
theorem gX7_step_X5_moveWalker : GoodIn wsX7_step (wsV RX7 127 RX5 yX5_moveWalker wsX5_moveWalker) := goodIn_app (goodIn_of _ (by decide +kernel)) ggX7_step_X5_moveWalker
set_option maxRecDepth 20000 in
theorem ggX7_step_X7_rememberSeen : GoodIn wsX7_step wsX7_rememberSeen := goodIn_r _ [62, 1, 63, 64, 65, 66, 67, 68, 69, 70, 71, 72, 73, 74, 75, 76, 77, 78, 79, 80, 81, 82, 83, 84, 85, 86, 87, 88, 89, 90, 19, 16, 20, 91, 22, 23, 92, 93, 94, 95, 96, 97, 98, 99, 100, 101, 102, 103, 104, 105, 106, 107, 108, 109, 110, 111, 112, 113, 114, 115, 116, 117, 118, 119, 120, 121, 122, 123, 124, 125, 18, 126, 127, 128, 21, 129, 130, 131, 132, 133, 134, 135, 136, 137, 138, 139, 140, 141, 142, 143, 144, 145, 146, 149, 150, 151, 152, 153, 154, 155, 156, 157] (by decide +kernel) (by decide +kernel)
set_option maxRecDepth 20000 in
theorem gX7_step_X7_rememberSeen : GoodIn wsX7_step (wsV RX7 83 RX7 yX7_rememberSeen wsX7_rememberSeen) := goodIn_app (goodIn_of _ (by decide +kernel)) ggX7_step_X7_rememberSeen
theorem dX7_step_0 : decode cX7_step 0 = .ok (.iload_n 1, 1) := by decide +kernel
theorem dX7_step_1 : decode cX7_step 1 = .ok (.iconst 0, 1) := by decide +kernel
theorem dX7_step_2 : decode cX7_step 2 = .ok (.iconst 3, 1) := by decide +kernel
theorem dX7_step_3 : decode cX7_step 3 = .ok (.invokestatic 86, 3) := by decide +kernel
theorem dX7_step_6 : decode cX7_step 6 = .ok (.ifCond .ne 5, 3) := by decide +kernel
theorem dX7_step_9 : decode cX7_step 9 = .ok (.iconst (-1), 1) := by decide +kernel
theorem dX7_step_10 : decode cX7_step 10 = .ok (.ireturn, 1) := by decide +kernel
theorem dX7_step_11 : decode cX7_step 11 = .ok (.aload_n 0, 1) := by decide +kernel
theorem dX7_step_12 : decode cX7_step 12 = .ok (.getfield 21, 3) := by decide +kernel
theorem dX7_step_15 : decode cX7_step 15 = .ok (.aload_n 0, 1) := by decide +kernel
theorem dX7_step_16 : decode cX7_step 16 = .ok (.getfield 21, 3) := by decide +kernel
theorem dX7_step_19 : decode cX7_step 19 = .ok (.getfield 120, 3) := by decide +kernel
theorem dX7_step_22 : decode cX7_step 22 = .ok (.iload_n 1, 1) := by decide +kernel
theorem dX7_step_23 : decode cX7_step 23 = .ok (.invokevirtual 123, 3) := by decide +kernel
theorem dX7_step_26 : decode cX7_step 26 = .ok (.istore_n 2, 1) := by decide +kernel
theorem dX7_step_27 : decode cX7_step 27 = .ok (.iload_n 2, 1) := by decide +kernel
theorem dX7_step_28 : decode cX7_step 28 = .ok (.iconst (-1), 1) := by decide +kernel
theorem dX7_step_29 : decode cX7_step 29 = .ok (.if_icmp .ne 6, 3) := by decide +kernel
theorem dX7_step_32 : decode cX7_step 32 = .ok (.bipush (-2), 2) := by decide +kernel
theorem dX7_step_34 : decode cX7_step 34 = .ok (.ireturn, 1) := by decide +kernel
theorem dX7_step_35 : decode cX7_step 35 = .ok (.aload_n 0, 1) := by decide +kernel
theorem dX7_step_36 : decode cX7_step 36 = .ok (.getfield 40, 3) := by decide +kernel
theorem dX7_step_39 : decode cX7_step 39 = .ok (.aload_n 0, 1) := by decide +kernel
theorem dX7_step_40 : decode cX7_step 40 = .ok (.getfield 21, 3) := by decide +kernel
theorem dX7_step_43 : decode cX7_step 43 = .ok (.invokevirtual 75, 3) := by decide +kernel
theorem dX7_step_46 : decode cX7_step 46 = .ok (.aload_n 0, 1) := by decide +kernel
theorem dX7_step_47 : decode cX7_step 47 = .ok (.getfield 21, 3) := by decide +kernel
theorem dX7_step_50 : decode cX7_step 50 = .ok (.iload_n 2, 1) := by decide +kernel
theorem dX7_step_51 : decode cX7_step 51 = .ok (.invokevirtual 127, 3) := by decide +kernel
theorem dX7_step_54 : decode cX7_step 54 = .ok (.aload_n 0, 1) := by decide +kernel
theorem dX7_step_55 : decode cX7_step 55 = .ok (.invokevirtual 83, 3) := by decide +kernel
theorem dX7_step_58 : decode cX7_step 58 = .ok (.iload_n 2, 1) := by decide +kernel
theorem dX7_step_59 : decode cX7_step 59 = .ok (.ireturn, 1) := by decide +kernel
set_option maxRecDepth 20000 in
theorem ggX7_forget_J13_bitCount_95d88 : GoodIn wsX7_forget wsJ13_bitCount_95d88 := goodIn_r _ [7, 8, 9, 10] (by decide +kernel) (by decide +kernel)
set_option maxRecDepth 20000 in
theorem gX7_forget_J13_bitCount_95d88 : GoodIn wsX7_forget (va_wsS RX7 130 yJ13_bitCount_95d88 wsJ13_bitCount_95d88) := goodIn_app (goodIn_of _ (by decide +kernel)) ggX7_forget_J13_bitCount_95d88
set_option maxRecDepth 20000 in
theorem ggX7_forget_X1_record : GoodIn wsX7_forget wsX1_record := goodIn_r _ [15, 16, 17, 18, 19, 20, 14, 21, 22, 23, 24, 25, 26, 27, 28, 29, 30, 31, 32, 33, 34, 35, 36, 37, 38, 39, 40, 136, 137, 126, 127, 128, 129, 130, 131, 132, 133, 134, 135] (by decide +kernel) (by decide +kernel)
set_option maxRecDepth 20000 in
theorem gX7_forget_X1_record : GoodIn wsX7_forget (wsV RX7 75 RX1 yX1_record wsX1_record) := goodIn_app (goodIn_of _ (by decide +kernel)) ggX7_forget_X1_record
set_option maxRecDepth 20000 in
theorem ggX7_forget_X7_rememberSeen : GoodIn wsX7_forget wsX7_rememberSeen := goodIn_r _ [45, 1, 2, 46, 47, 48, 49, 50, 51, 52, 53, 54, 55, 56, 57, 58, 59, 60, 61, 62, 63, 64, 65, 66, 67, 68, 69, 70, 71, 72, 73, 74, 75, 76, 77, 78, 79, 80, 81, 82, 83, 84, 85, 86, 87, 88, 89, 90, 91, 92, 93, 94, 95, 96, 97, 98, 99, 100, 101, 102, 103, 104, 105, 106, 107, 108, 109, 110, 111, 112, 113, 114, 115, 116, 117, 118, 119, 120, 121, 122, 123, 124, 125, 126, 127, 128, 129, 130, 131, 132, 133, 134, 135, 138, 139, 140, 141, 142, 143, 144, 145, 146] (by decide +kernel) (by decide +kernel)
set_option maxRecDepth 20000 in
theorem gX7_forget_X7_rememberSeen : GoodIn wsX7_forget (wsV RX7 83 RX7 yX7_rememberSeen wsX7_rememberSeen) := goodIn_app (goodIn_of _ (by decide +kernel)) ggX7_forget_X7_rememberSeen
theorem dX7_forget_0 : decode cX7_forget 0 = .ok (.aload_n 0, 1) := by decide +kernel
theorem dX7_forget_1 : decode cX7_forget 1 = .ok (.getfield 21, 3) := by decide +kernel
theorem dX7_forget_4 : decode cX7_forget 4 = .ok (.getfield 17, 3) := by decide +kernel
theorem dX7_forget_7 : decode cX7_forget 7 = .ok (.invokestatic 130, 3) := by decide +kernel
theorem dX7_forget_10 : decode cX7_forget 10 = .ok (.istore_n 1, 1) := by decide +kernel
theorem dX7_forget_11 : decode cX7_forget 11 = .ok (.aload_n 0, 1) := by decide +kernel
theorem dX7_forget_12 : decode cX7_forget 12 = .ok (.getfield 40, 3) := by decide +kernel
theorem dX7_forget_15 : decode cX7_forget 15 = .ok (.aload_n 0, 1) := by decide +kernel
theorem dX7_forget_16 : decode cX7_forget 16 = .ok (.getfield 21, 3) := by decide +kernel
theorem dX7_forget_19 : decode cX7_forget 19 = .ok (.invokevirtual 75, 3) := by decide +kernel
theorem dX7_forget_22 : decode cX7_forget 22 = .ok (.aload_n 0, 1) := by decide +kernel
theorem dX7_forget_23 : decode cX7_forget 23 = .ok (.getfield 21, 3) := by decide +kernel
theorem dX7_forget_26 : decode cX7_forget 26 = .ok (.lconst 0, 1) := by decide +kernel
theorem dX7_forget_27 : decode cX7_forget 27 = .ok (.putfield 17, 3) := by decide +kernel
theorem dX7_forget_30 : decode cX7_forget 30 = .ok (.aload_n 0, 1) := by decide +kernel
theorem dX7_forget_31 : decode cX7_forget 31 = .ok (.invokevirtual 83, 3) := by decide +kernel
theorem dX7_forget_34 : decode cX7_forget 34 = .ok (.iload_n 1, 1) := by decide +kernel
theorem dX7_forget_35 : decode cX7_forget 35 = .ok (.ireturn, 1) := by decide +kernel
set_option maxRecDepth 20000 in
theorem ggX7_append_X7_isWithin : GoodIn wsX7_append wsX7_isWithin := goodIn_r _ [6] (by decide +kernel) (by decide +kernel)
set_option maxRecDepth 20000 in
theorem gX7_append_X7_isWithin : GoodIn wsX7_append (va_wsS RX7 86 yX7_isWithin wsX7_isWithin) := goodIn_app (goodIn_of _ (by decide +kernel)) ggX7_append_X7_isWithin
set_option maxRecDepth 20000 in
theorem ggX7_append_X4_add : GoodIn wsX7_append wsX4_add := goodIn_r _ [11, 12, 13, 22, 23] (by decide +kernel) (by decide +kernel)
set_option maxRecDepth 20000 in
theorem gX7_append_X4_add : GoodIn wsX7_append (wsV RX7 139 RX4 yX4_add wsX4_add) := goodIn_app (goodIn_of _ (by decide +kernel)) ggX7_append_X4_add
theorem dX7_append_0 : decode cX7_append 0 = .ok (.iload_n 1, 1) := by decide +kernel
theorem dX7_append_1 : decode cX7_append 1 = .ok (.bipush 33, 2) := by decide +kernel
theorem dX7_append_3 : decode cX7_append 3 = .ok (.bipush 126, 2) := by decide +kernel
theorem dX7_append_5 : decode cX7_append 5 = .ok (.invokestatic 86, 3) := by decide +kernel
theorem dX7_append_8 : decode cX7_append 8 = .ok (.ifCond .ne 5, 3) := by decide +kernel
theorem dX7_append_11 : decode cX7_append 11 = .ok (.iconst (-1), 1) := by decide +kernel
theorem dX7_append_12 : decode cX7_append 12 = .ok (.ireturn, 1) := by decide +kernel
theorem dX7_append_13 : decode cX7_append 13 = .ok (.aload_n 0, 1) := by decide +kernel
theorem dX7_append_14 : decode cX7_append 14 = .ok (.getfield 47, 3) := by decide +kernel
theorem dX7_append_17 : decode cX7_append 17 = .ok (.getfield 136, 3) := by decide +kernel
theorem dX7_append_20 : decode cX7_append 20 = .ok (.bipush 80, 2) := by decide +kernel
theorem dX7_append_22 : decode cX7_append 22 = .ok (.if_icmp .lt 6, 3) := by decide +kernel
theorem dX7_append_25 : decode cX7_append 25 = .ok (.bipush (-3), 2) := by decide +kernel
theorem dX7_append_27 : decode cX7_append 27 = .ok (.ireturn, 1) := by decide +kernel
theorem dX7_append_28 : decode cX7_append 28 = .ok (.aload_n 0, 1) := by decide +kernel
theorem dX7_append_29 : decode cX7_append 29 = .ok (.getfield 47, 3) := by decide +kernel
theorem dX7_append_32 : decode cX7_append 32 = .ok (.iload_n 1, 1) := by decide +kernel
theorem dX7_append_33 : decode cX7_append 33 = .ok (.i2c, 1) := by decide +kernel
theorem dX7_append_34 : decode cX7_append 34 = .ok (.invokevirtual 139, 3) := by decide +kernel
theorem dX7_append_37 : decode cX7_append 37 = .ok (.aload_n 0, 1) := by decide +kernel
theorem dX7_append_38 : decode cX7_append 38 = .ok (.getfield 47, 3) := by decide +kernel
theorem dX7_append_41 : decode cX7_append 41 = .ok (.getfield 136, 3) := by decide +kernel
theorem dX7_append_44 : decode cX7_append 44 = .ok (.ireturn, 1) := by decide +kernel
theorem dX7_clear_0 : decode cX7_clear 0 = .ok (.aload_n 0, 1) := by decide +kernel
theorem dX7_clear_1 : decode cX7_clear 1 = .ok (.getfield 47, 3) := by decide +kernel
theorem dX7_clear_4 : decode cX7_clear 4 = .ok (.getfield 136, 3) := by decide +kernel
theorem dX7_clear_7 : decode cX7_clear 7 = .ok (.istore_n 1, 1) := by decide +kernel
theorem dX7_clear_8 : decode cX7_clear 8 = .ok (.aload_n 0, 1) := by decide +kernel
theorem dX7_clear_9 : decode cX7_clear 9 = .ok (.getfield 47, 3) := by decide +kernel
theorem dX7_clear_12 : decode cX7_clear 12 = .ok (.iconst 0, 1) := by decide +kernel
theorem dX7_clear_13 : decode cX7_clear 13 = .ok (.putfield 136, 3) := by decide +kernel
theorem dX7_clear_16 : decode cX7_clear 16 = .ok (.iload_n 1, 1) := by decide +kernel
theorem dX7_clear_17 : decode cX7_clear 17 = .ok (.ireturn, 1) := by decide +kernel
set_option maxRecDepth 20000 in
theorem ggX7_fault_X4_faultAsMap : GoodIn wsX7_fault wsX4_faultAsMap := goodIn_r _ [8, 9, 10, 11, 12, 7, 13, 14, 15, 16, 17, 18, 19, 20, 21, 44, 45] (by decide +kernel) (by decide +kernel)
set_option maxRecDepth 20000 in
theorem gX7_fault_X4_faultAsMap : GoodIn wsX7_fault (wsV RX7 143 RX4 yX4_faultAsMap wsX4_faultAsMap) := goodIn_app (goodIn_of _ (by decide +kernel)) ggX7_fault_X4_faultAsMap
set_option maxRecDepth 20000 in
theorem ggX7_fault_X4_faultAsWalk : GoodIn wsX7_fault wsX4_faultAsWalk := goodIn_r _ [25, 9, 14, 44, 45] (by decide +kernel) (by decide +kernel)
set_option maxRecDepth 20000 in
theorem gX7_fault_X4_faultAsWalk : GoodIn wsX7_fault (wsV RX7 147 RX4 yX4_faultAsWalk wsX4_faultAsWalk) := goodIn_app (goodIn_of _ (by decide +kernel)) ggX7_fault_X4_faultAsWalk
theorem dX7_fault_0 : decode cX7_fault 0 = .ok (.iload_n 1, 1) := by decide +kernel
theorem dX7_fault_1 : decode cX7_fault 1 = .ok (.ifCond .ne 18, 3) := by decide +kernel
theorem dX7_fault_4 : decode cX7_fault 4 = .ok (.aload_n 0, 1) := by decide +kernel
theorem dX7_fault_5 : decode cX7_fault 5 = .ok (.getfield 47, 3) := by decide +kernel
theorem dX7_fault_8 : decode cX7_fault 8 = .ok (.aload_n 0, 1) := by decide +kernel
theorem dX7_fault_9 : decode cX7_fault 9 = .ok (.getfield 21, 3) := by decide +kernel
theorem dX7_fault_12 : decode cX7_fault 12 = .ok (.getfield 120, 3) := by decide +kernel
theorem dX7_fault_15 : decode cX7_fault 15 = .ok (.invokevirtual 143, 3) := by decide +kernel
theorem dX7_fault_18 : decode cX7_fault 18 = .ok (.ireturn, 1) := by decide +kernel
theorem dX7_fault_19 : decode cX7_fault 19 = .ok (.iload_n 1, 1) := by decide +kernel
theorem dX7_fault_20 : decode cX7_fault 20 = .ok (.iconst 1, 1) := by decide +kernel
theorem dX7_fault_21 : decode cX7_fault 21 = .ok (.if_icmp .ne 13, 3) := by decide +kernel
theorem dX7_fault_24 : decode cX7_fault 24 = .ok (.aload_n 0, 1) := by decide +kernel
theorem dX7_fault_25 : decode cX7_fault 25 = .ok (.getfield 47, 3) := by decide +kernel
theorem dX7_fault_28 : decode cX7_fault 28 = .ok (.invokevirtual 147, 3) := by decide +kernel
theorem dX7_fault_31 : decode cX7_fault 31 = .ok (.goto 4, 3) := by decide +kernel
theorem dX7_fault_34 : decode cX7_fault 34 = .ok (.iconst (-1), 1) := by decide +kernel
theorem dX7_fault_35 : decode cX7_fault 35 = .ok (.ireturn, 1) := by decide +kernel
set_option maxRecDepth 20000 in
theorem ggX7_load_X4_faultAsMap : GoodIn wsX7_load wsX4_faultAsMap := goodIn_r _ [11, 12, 13, 14, 15, 10, 16, 17, 18, 19, 20, 21, 22, 23, 24, 175, 176] (by decide +kernel) (by decide +kernel)
set_option maxRecDepth 20000 in
theorem gX7_load_X4_faultAsMap : GoodIn wsX7_load (wsV RX7 143 RX4 yX4_faultAsMap wsX4_faultAsMap) := goodIn_app (goodIn_of _ (by decide +kernel)) ggX7_load_X4_faultAsMap
set_option maxRecDepth 20000 in
theorem ggX7_load_X1_record : GoodIn wsX7_load wsX1_record := goodIn_r _ [29, 30, 31, 32, 33, 34, 28, 35, 36, 37, 38, 39, 40, 41, 42, 43, 44, 45, 46, 47, 48, 49, 50, 51, 52, 53, 54, 177, 178, 165, 166, 167, 168, 169, 170, 171, 172, 173, 174] (by decide +kernel) (by decide +kernel)
set_option maxRecDepth 20000 in
theorem gX7_load_X1_record : GoodIn wsX7_load (wsV RX7 75 RX1 yX1_record wsX1_record) := goodIn_app (goodIn_of _ (by decide +kernel)) ggX7_load_X1_record
set_option maxRecDepth 20000 in
theorem ggX7_load_X4_kindAt : GoodIn wsX7_load wsX4_kindAt := goodIn_r _ [58, 17, 59, 60, 23, 61, 62, 63, 64, 18, 19, 10, 20, 175, 176] (by decide +kernel) (by decide +kernel)
set_option maxRecDepth 20000 in
theorem gX7_load_X4_kindAt : GoodIn wsX7_load (wsV RX7 151 RX4 yX4_kindAt wsX4_kindAt) := goodIn_app (goodIn_of _ (by decide +kernel)) ggX7_load_X4_kindAt
set_option maxRecDepth 20000 in
theorem ggX7_load_X5_changeKind : GoodIn wsX7_load wsX5_changeKind := goodIn_r _ [68, 41, 69, 70, 23, 71, 72, 73, 74, 39, 75, 49, 46, 76, 77, 78, 79, 47, 48, 80, 81, 82, 83, 165, 166, 167, 168, 169, 170, 171, 172, 173, 174] (by decide +kernel) (by decide +kernel)
set_option maxRecDepth 20000 in
theorem gX7_load_X5_changeKind : GoodIn wsX7_load (wsV RX7 79 RX5 yX5_changeKind wsX5_changeKind) := goodIn_app (goodIn_of _ (by decide +kernel)) ggX7_load_X5_changeKind
set_option maxRecDepth 20000 in
theorem ggX7_load_X7_rememberSeen : GoodIn wsX7_load wsX7_rememberSeen := goodIn_r _ [88, 2, 89, 90, 91, 92, 93, 94, 95, 96, 97, 98, 99, 100, 101, 102, 103, 104, 105, 106, 107, 108, 109, 110, 111, 112, 113, 114, 115, 116, 60, 23, 61, 117, 63, 64, 118, 119, 120, 121, 122, 123, 124, 125, 126, 127, 128, 129, 130, 131, 132, 133, 134, 135, 136, 137, 138, 139, 140, 141, 142, 143, 144, 145, 146, 147, 148, 149, 150, 151, 152, 153, 154, 155, 156, 157, 158, 159, 160, 161, 162, 163, 164, 165, 166, 167, 168, 169, 170, 171, 172, 173, 174, 179, 180, 181, 182, 183, 184, 185, 186, 187] (by decide +kernel) (by decide +kernel)
set_option maxRecDepth 20000 in
theorem gX7_load_X7_rememberSeen : GoodIn wsX7_load (wsV RX7 83 RX7 yX7_rememberSeen wsX7_rememberSeen) := goodIn_app (goodIn_of _ (by decide +kernel)) ggX7_load_X7_rememberSeen
theorem dX7_load_0 : decode cX7_load 0 = .ok (.aload_n 0, 1) := by decide +kernel
theorem dX7_load_1 : decode cX7_load 1 = .ok (.getfield 47, 3) := by decide +kernel
theorem dX7_load_4 : decode cX7_load 4 = .ok (.aload_n 0, 1) := by decide +kernel
theorem dX7_load_5 : decode cX7_load 5 = .ok (.getfield 21, 3) := by decide +kernel
theorem dX7_load_8 : decode cX7_load 8 = .ok (.getfield 120, 3) := by decide +kernel
theorem dX7_load_11 : decode cX7_load 11 = .ok (.invokevirtual 143, 3) := by decide +kernel
theorem dX7_load_14 : decode cX7_load 14 = .ok (.bipush (-4), 2) := by decide +kernel
theorem dX7_load_16 : decode cX7_load 16 = .ok (.if_icmp .eq 6, 3) := by decide +kernel
theorem dX7_load_19 : decode cX7_load 19 = .ok (.bipush (-2), 2) := by decide +kernel
theorem dX7_load_21 : decode cX7_load 21 = .ok (.ireturn, 1) := by decide +kernel
theorem dX7_load_22 : decode cX7_load 22 = .ok (.aload_n 0, 1) := by decide +kernel
theorem dX7_load_23 : decode cX7_load 23 = .ok (.getfield 40, 3) := by decide +kernel
theorem dX7_load_26 : decode cX7_load 26 = .ok (.aload_n 0, 1) := by decide +kernel
theorem dX7_load_27 : decode cX7_load 27 = .ok (.getfield 21, 3) := by decide +kernel
theorem dX7_load_30 : decode cX7_load 30 = .ok (.invokevirtual 75, 3) := by decide +kernel
theorem dX7_load_33 : decode cX7_load 33 = .ok (.iconst 0, 1) := by decide +kernel
theorem dX7_load_34 : decode cX7_load 34 = .ok (.istore_n 1, 1) := by decide +kernel
theorem dX7_load_35 : decode cX7_load 35 = .ok (.iconst 0, 1) := by decide +kernel
theorem dX7_load_36 : decode cX7_load 36 = .ok (.istore_n 2, 1) := by decide +kernel
theorem dX7_load_37 : decode cX7_load 37 = .ok (.iload_n 2, 1) := by decide +kernel
theorem dX7_load_38 : decode cX7_load 38 = .ok (.bipush 64, 2) := by decide +kernel
theorem dX7_load_40 : decode cX7_load 40 = .ok (.if_icmp .ge 43, 3) := by decide +kernel
theorem dX7_load_43 : decode cX7_load 43 = .ok (.aload_n 0, 1) := by decide +kernel
theorem dX7_load_44 : decode cX7_load 44 = .ok (.getfield 47, 3) := by decide +kernel
theorem dX7_load_47 : decode cX7_load 47 = .ok (.iload_n 2, 1) := by decide +kernel
theorem dX7_load_48 : decode cX7_load 48 = .ok (.invokevirtual 151, 3) := by decide +kernel
theorem dX7_load_51 : decode cX7_load 51 = .ok (.istore_n 3, 1) := by decide +kernel
theorem dX7_load_52 : decode cX7_load 52 = .ok (.iload_n 3, 1) := by decide +kernel
theorem dX7_load_53 : decode cX7_load 53 = .ok (.aload_n 0, 1) := by decide +kernel
theorem dX7_load_54 : decode cX7_load 54 = .ok (.getfield 21, 3) := by decide +kernel
theorem dX7_load_57 : decode cX7_load 57 = .ok (.getfield 71, 3) := by decide +kernel
theorem dX7_load_60 : decode cX7_load 60 = .ok (.iload_n 2, 1) := by decide +kernel
theorem dX7_load_61 : decode cX7_load 61 = .ok (.iaload, 1) := by decide +kernel
theorem dX7_load_62 : decode cX7_load 62 = .ok (.if_icmp .eq 6, 3) := by decide +kernel
theorem dX7_load_65 : decode cX7_load 65 = .ok (.iinc 1 1, 3) := by decide +kernel
theorem dX7_load_68 : decode cX7_load 68 = .ok (.aload_n 0, 1) := by decide +kernel
theorem dX7_load_69 : decode cX7_load 69 = .ok (.getfield 21, 3) := by decide +kernel
theorem dX7_load_72 : decode cX7_load 72 = .ok (.iload_n 2, 1) := by decide +kernel
theorem dX7_load_73 : decode cX7_load 73 = .ok (.iload_n 3, 1) := by decide +kernel
theorem dX7_load_74 : decode cX7_load 74 = .ok (.invokevirtual 79, 3) := by decide +kernel
theorem dX7_load_77 : decode cX7_load 77 = .ok (.iinc 2 1, 3) := by decide +kernel
theorem dX7_load_80 : decode cX7_load 80 = .ok (.goto (-43), 3) := by decide +kernel
theorem dX7_load_83 : decode cX7_load 83 = .ok (.aload_n 0, 1) := by decide +kernel
theorem dX7_load_84 : decode cX7_load 84 = .ok (.getfield 47, 3) := by decide +kernel
theorem dX7_load_87 : decode cX7_load 87 = .ok (.iconst 0, 1) := by decide +kernel
theorem dX7_load_88 : decode cX7_load 88 = .ok (.putfield 136, 3) := by decide +kernel
theorem dX7_load_91 : decode cX7_load 91 = .ok (.aload_n 0, 1) := by decide +kernel
theorem dX7_load_92 : decode cX7_load 92 = .ok (.invokevirtual 83, 3) := by decide +kernel
theorem dX7_load_95 : decode cX7_load 95 = .ok (.iload_n 1, 1) := by decide +kernel
theorem dX7_load_96 : decode cX7_load 96 = .ok (.ireturn, 1) := by decide +kernel
set_option maxRecDepth 20000 in
theorem ggX7_walk_X4_faultAsWalk : GoodIn wsX7_walk wsX4_faultAsWalk := goodIn_r _ [10, 11, 12, 147, 148] (by decide +kernel) (by decide +kernel)
set_option maxRecDepth 20000 in
theorem gX7_walk_X4_faultAsWalk : GoodIn wsX7_walk (wsV RX7 147 RX4 yX4_faultAsWalk wsX4_faultAsWalk) := goodIn_app (goodIn_of _ (by decide +kernel)) ggX7_walk_X4_faultAsWalk
set_option maxRecDepth 20000 in
theorem ggX7_walk_X1_record : GoodIn wsX7_walk wsX1_record := goodIn_r _ [17, 18, 19, 20, 21, 22, 16, 23, 24, 25, 26, 27, 28, 29, 30, 31, 32, 33, 34, 35, 36, 37, 38, 39, 40, 41, 42, 159, 160, 149, 150, 151, 152, 153, 154, 155, 156, 157, 158] (by decide +kernel) (by decide +kernel)
set_option maxRecDepth 20000 in
theorem gX7_walk_X1_record : GoodIn wsX7_walk (wsV RX7 75 RX1 yX1_record wsX1_record) := goodIn_app (goodIn_of _ (by decide +kernel)) ggX7_walk_X1_record
set_option maxRecDepth 20000 in
theorem ggX7_walk_X4_directionAt : GoodIn wsX7_walk wsX4_directionAt := goodIn_r _ [46, 12, 147, 148] (by decide +kernel) (by decide +kernel)
set_option maxRecDepth 20000 in
theorem gX7_walk_X4_directionAt : GoodIn wsX7_walk (wsV RX7 154 RX4 yX4_directionAt wsX4_directionAt) := goodIn_app (goodIn_of _ (by decide +kernel)) ggX7_walk_X4_directionAt
set_option maxRecDepth 20000 in
theorem ggX7_walk_X5_nextOnFoot : GoodIn wsX7_walk wsX5_nextOnFoot := goodIn_r _ [50, 29, 51, 52, 53, 54, 55, 56, 57, 58, 59, 60, 61, 62, 63, 149, 150, 151, 152, 153, 154, 155, 156, 157, 158] (by decide +kernel) (by decide +kernel)
set_option maxRecDepth 20000 in
theorem gX7_walk_X5_nextOnFoot : GoodIn wsX7_walk (wsV RX7 123 RX5 yX5_nextOnFoot wsX5_nextOnFoot) := goodIn_app (goodIn_of _ (by decide +kernel)) ggX7_walk_X5_nextOnFoot
set_option maxRecDepth 20000 in
theorem ggX7_walk_X5_moveWalker : GoodIn wsX7_walk wsX5_moveWalker := goodIn_r _ [67, 38, 39, 37, 36, 149, 150, 151, 152, 153, 154, 155, 156, 157, 158] (by decide +kernel) (by decide +kernel)
set_option maxRecDepth 20000 in
theorem gX7_walk_X5_moveWalker : GoodIn wsX7_walk (wsV RX7 127 RX5 yX5_moveWalker wsX5_moveWalker) := goodIn_app (goodIn_of _ (by decide +kernel)) ggX7_walk_X5_moveWalker
set_option maxRecDepth 20000 in
theorem ggX7_walk_X7_rememberSeen : GoodIn wsX7_walk wsX7_rememberSeen := goodIn_r _ [72, 3, 73, 74, 75, 76, 77, 78, 79, 80, 81, 82, 83, 84, 85, 86, 87, 88, 89, 90, 91, 92, 93, 94, 95, 96, 97, 98, 99, 100, 56, 53, 57, 101, 59, 60, 102, 103, 104, 105, 106, 107, 108, 109, 110, 111, 112, 113, 114, 115, 116, 117, 118, 119, 120, 121, 122, 123, 124, 125, 126, 127, 128, 129, 130, 131, 132, 133, 134, 135, 55, 136, 137, 138, 58, 139, 140, 141, 142, 143, 144, 145, 146, 149, 150, 151, 152, 153, 154, 155, 156, 157, 158, 161, 162, 163, 164, 165, 166, 167, 168, 169] (by decide +kernel) (by decide +kernel)
set_option maxRecDepth 20000 in
theorem gX7_walk_X7_rememberSeen : GoodIn wsX7_walk (wsV RX7 83 RX7 yX7_rememberSeen wsX7_rememberSeen) := goodIn_app (goodIn_of _ (by decide +kernel)) ggX7_walk_X7_rememberSeen
theorem dX7_walk_0 : decode cX7_walk 0 = .ok (.aload_n 0, 1) := by decide +kernel
theorem dX7_walk_1 : decode cX7_walk 1 = .ok (.getfield 47, 3) := by decide +kernel
theorem dX7_walk_4 : decode cX7_walk 4 = .ok (.invokevirtual 147, 3) := by decide +kernel
theorem dX7_walk_7 : decode cX7_walk 7 = .ok (.bipush (-4), 2) := by decide +kernel
theorem dX7_walk_9 : decode cX7_walk 9 = .ok (.if_icmp .eq 6, 3) := by decide +kernel
theorem dX7_walk_12 : decode cX7_walk 12 = .ok (.bipush (-2), 2) := by decide +kernel
theorem dX7_walk_14 : decode cX7_walk 14 = .ok (.ireturn, 1) := by decide +kernel
theorem dX7_walk_15 : decode cX7_walk 15 = .ok (.aload_n 0, 1) := by decide +kernel
theorem dX7_walk_16 : decode cX7_walk 16 = .ok (.getfield 40, 3) := by decide +kernel
theorem dX7_walk_19 : decode cX7_walk 19 = .ok (.aload_n 0, 1) := by decide +kernel
theorem dX7_walk_20 : decode cX7_walk 20 = .ok (.getfield 21, 3) := by decide +kernel
theorem dX7_walk_23 : decode cX7_walk 23 = .ok (.invokevirtual 75, 3) := by decide +kernel
theorem dX7_walk_26 : decode cX7_walk 26 = .ok (.iconst 0, 1) := by decide +kernel
theorem dX7_walk_27 : decode cX7_walk 27 = .ok (.istore_n 1, 1) := by decide +kernel
theorem dX7_walk_28 : decode cX7_walk 28 = .ok (.iconst 0, 1) := by decide +kernel
theorem dX7_walk_29 : decode cX7_walk 29 = .ok (.istore_n 2, 1) := by decide +kernel
theorem dX7_walk_30 : decode cX7_walk 30 = .ok (.iload_n 2, 1) := by decide +kernel
theorem dX7_walk_31 : decode cX7_walk 31 = .ok (.aload_n 0, 1) := by decide +kernel
theorem dX7_walk_32 : decode cX7_walk 32 = .ok (.getfield 47, 3) := by decide +kernel
theorem dX7_walk_35 : decode cX7_walk 35 = .ok (.getfield 136, 3) := by decide +kernel
theorem dX7_walk_38 : decode cX7_walk 38 = .ok (.if_icmp .ge 55, 3) := by decide +kernel
theorem dX7_walk_41 : decode cX7_walk 41 = .ok (.aload_n 0, 1) := by decide +kernel
theorem dX7_walk_42 : decode cX7_walk 42 = .ok (.getfield 21, 3) := by decide +kernel
theorem dX7_walk_45 : decode cX7_walk 45 = .ok (.aload_n 0, 1) := by decide +kernel
theorem dX7_walk_46 : decode cX7_walk 46 = .ok (.getfield 21, 3) := by decide +kernel
theorem dX7_walk_49 : decode cX7_walk 49 = .ok (.getfield 120, 3) := by decide +kernel
theorem dX7_walk_52 : decode cX7_walk 52 = .ok (.aload_n 0, 1) := by decide +kernel
theorem dX7_walk_53 : decode cX7_walk 53 = .ok (.getfield 47, 3) := by decide +kernel
theorem dX7_walk_56 : decode cX7_walk 56 = .ok (.iload_n 2, 1) := by decide +kernel
theorem dX7_walk_57 : decode cX7_walk 57 = .ok (.invokevirtual 154, 3) := by decide +kernel
theorem dX7_walk_60 : decode cX7_walk 60 = .ok (.invokevirtual 123, 3) := by decide +kernel
theorem dX7_walk_63 : decode cX7_walk 63 = .ok (.istore_n 3, 1) := by decide +kernel
theorem dX7_walk_64 : decode cX7_walk 64 = .ok (.iload_n 3, 1) := by decide +kernel
theorem dX7_walk_65 : decode cX7_walk 65 = .ok (.iconst (-1), 1) := by decide +kernel
theorem dX7_walk_66 : decode cX7_walk 66 = .ok (.if_icmp .ne 6, 3) := by decide +kernel
theorem dX7_walk_69 : decode cX7_walk 69 = .ok (.goto 24, 3) := by decide +kernel
theorem dX7_walk_72 : decode cX7_walk 72 = .ok (.aload_n 0, 1) := by decide +kernel
theorem dX7_walk_73 : decode cX7_walk 73 = .ok (.getfield 21, 3) := by decide +kernel
theorem dX7_walk_76 : decode cX7_walk 76 = .ok (.iload_n 3, 1) := by decide +kernel
theorem dX7_walk_77 : decode cX7_walk 77 = .ok (.invokevirtual 127, 3) := by decide +kernel
theorem dX7_walk_80 : decode cX7_walk 80 = .ok (.aload_n 0, 1) := by decide +kernel
theorem dX7_walk_81 : decode cX7_walk 81 = .ok (.invokevirtual 83, 3) := by decide +kernel
theorem dX7_walk_84 : decode cX7_walk 84 = .ok (.iinc 1 1, 3) := by decide +kernel
theorem dX7_walk_87 : decode cX7_walk 87 = .ok (.iinc 2 1, 3) := by decide +kernel
theorem dX7_walk_90 : decode cX7_walk 90 = .ok (.goto (-60), 3) := by decide +kernel
theorem dX7_walk_93 : decode cX7_walk 93 = .ok (.aload_n 0, 1) := by decide +kernel
theorem dX7_walk_94 : decode cX7_walk 94 = .ok (.getfield 47, 3) := by decide +kernel
theorem dX7_walk_97 : decode cX7_walk 97 = .ok (.iconst 0, 1) := by decide +kernel
theorem dX7_walk_98 : decode cX7_walk 98 = .ok (.putfield 136, 3) := by decide +kernel
theorem dX7_walk_101 : decode cX7_walk 101 = .ok (.iload_n 1, 1) := by decide +kernel
theorem dX7_walk_102 : decode cX7_walk 102 = .ok (.ireturn, 1) := by decide +kernel
set_option maxRecDepth 20000 in
theorem ggX7_cell_X0_isCell : GoodIn wsX7_cell wsX0_isCell := goodIn_r _ [10] (by decide +kernel) (by decide +kernel)
set_option maxRecDepth 20000 in
theorem gX7_cell_X0_isCell : GoodIn wsX7_cell (va_wsS RX7 58 yX0_isCell wsX0_isCell) := goodIn_app (goodIn_of _ (by decide +kernel)) ggX7_cell_X0_isCell
set_option maxRecDepth 20000 in
theorem ggX7_cell_X2_at : GoodIn wsX7_cell wsX2_at := goodIn_r _ [15, 16, 17, 18, 19, 14, 20, 21, 22, 23, 24, 25, 26, 27, 28, 29, 30, 9, 31, 32, 33, 34, 35, 36, 37, 38, 39, 40, 41, 42, 43, 44, 45, 46, 47, 48, 49, 50, 51, 52, 53, 54, 55, 56, 57, 113, 114, 115, 116, 117, 118, 119, 120, 121, 122, 123, 124, 125, 126, 127, 128, 129, 130, 131] (by decide +kernel) (by decide +kernel)
set_option maxRecDepth 20000 in
theorem gX7_cell_X2_at : GoodIn wsX7_cell (wsV RX7 157 RX2 yX2_at wsX2_at) := goodIn_app (goodIn_of _ (by decide +kernel)) ggX7_cell_X2_at
set_option maxRecDepth 20000 in
theorem ggX7_cell_X2_seenCells : GoodIn wsX7_cell wsX2_seenCells := goodIn_r _ [61, 62, 63, 24, 25, 64, 65, 66, 67, 14, 68, 16, 17, 18, 19, 20, 21, 22, 23, 26, 27, 28, 29, 30, 9, 31, 32, 33, 34, 35, 36, 37, 38, 39, 40, 41, 42, 43, 44, 45, 46, 47, 48, 49, 50, 51, 52, 53, 54, 55, 56, 57, 69, 70, 71, 72, 73, 74, 75, 76, 77, 78, 79, 80, 81, 82, 83, 84, 123, 124, 113, 114, 115, 116, 117, 118, 119, 120, 121, 122, 125, 126, 127, 128, 129, 130, 131] (by decide +kernel) (by decide +kernel)
set_option maxRecDepth 20000 in
theorem gX7_cell_X2_seenCells : GoodIn wsX7_cell (wsV RX7 13 RX2 yX2_seenCells wsX2_seenCells) := goodIn_app (goodIn_of _ (by decide +kernel)) ggX7_cell_X2_seenCells
set_option maxRecDepth 20000 in
theorem ggX7_cell_X7_bitOf : GoodIn wsX7_cell wsX7_bitOf := goodIn_r _ [88] (by decide +kernel) (by decide +kernel)
set_option maxRecDepth 20000 in
theorem gX7_cell_X7_bitOf : GoodIn wsX7_cell (va_wsS RX7 161 yX7_bitOf wsX7_bitOf) := goodIn_app (goodIn_of _ (by decide +kernel)) ggX7_cell_X7_bitOf
set_option maxRecDepth 20000 in
theorem ggX7_cell_X2_givers : GoodIn wsX7_cell wsX2_givers := goodIn_r _ [92, 16, 17, 18, 19, 14, 20, 21, 22, 23, 24, 25, 26, 27, 28, 29, 30, 9, 31, 32, 33, 34, 35, 36, 37, 38, 39, 40, 41, 42, 43, 44, 45, 46, 47, 48, 49, 50, 51, 52, 53, 54, 55, 56, 57, 113, 114, 115, 116, 117, 118, 119, 120, 121, 122, 123, 124, 125, 126, 127, 128, 129, 130, 131] (by decide +kernel) (by decide +kernel)
set_option maxRecDepth 20000 in
theorem gX7_cell_X2_givers : GoodIn wsX7_cell (wsV RX7 165 RX2 yX2_givers wsX2_givers) := goodIn_app (goodIn_of _ (by decide +kernel)) ggX7_cell_X2_givers
set_option maxRecDepth 20000 in
theorem ggX7_cell_X5_lampIn : GoodIn wsX7_cell wsX5_lampIn := goodIn_r _ [97, 98, 99, 113, 114, 115, 116, 117, 118, 119, 120, 121, 122] (by decide +kernel) (by decide +kernel)
set_option maxRecDepth 20000 in
theorem gX7_cell_X5_lampIn : GoodIn wsX7_cell (wsV RX7 168 RX5 yX5_lampIn wsX5_lampIn) := goodIn_app (goodIn_of _ (by decide +kernel)) ggX7_cell_X5_lampIn
set_option maxRecDepth 20000 in
theorem ggX7_cell_X3_freeCells : GoodIn wsX7_cell wsX3_freeCells := goodIn_r _ [103, 104, 36, 37, 38, 39, 40, 41, 42, 43, 44, 45, 46, 47, 48, 49, 50, 51, 52, 53, 54, 55, 56, 57, 125, 126, 127, 128, 129, 130, 131] (by decide +kernel) (by decide +kernel)
set_option maxRecDepth 20000 in
theorem gX7_cell_X3_freeCells : GoodIn wsX7_cell (wsV RX7 175 RX3 yX3_freeCells wsX3_freeCells) := goodIn_app (goodIn_of _ (by decide +kernel)) ggX7_cell_X3_freeCells
theorem dX7_cell_0 : decode cX7_cell 0 = .ok (.iload_n 1, 1) := by decide +kernel
theorem dX7_cell_1 : decode cX7_cell 1 = .ok (.invokestatic 58, 3) := by decide +kernel
theorem dX7_cell_4 : decode cX7_cell 4 = .ok (.ifCond .ne 5, 3) := by decide +kernel
theorem dX7_cell_7 : decode cX7_cell 7 = .ok (.iconst (-1), 1) := by decide +kernel
theorem dX7_cell_8 : decode cX7_cell 8 = .ok (.ireturn, 1) := by decide +kernel
theorem dX7_cell_9 : decode cX7_cell 9 = .ok (.iload_n 2, 1) := by decide +kernel
theorem dX7_cell_10 : decode cX7_cell 10 = .ok (.tableswitch 166 0 7 #[46, 56, 69, 97, 113, 125, 138, 147], 46) := by decide +kernel
theorem dX7_cell_56 : decode cX7_cell 56 = .ok (.aload_n 0, 1) := by decide +kernel
theorem dX7_cell_57 : decode cX7_cell 57 = .ok (.getfield 21, 3) := by decide +kernel
theorem dX7_cell_60 : decode cX7_cell 60 = .ok (.getfield 71, 3) := by decide +kernel
theorem dX7_cell_63 : decode cX7_cell 63 = .ok (.iload_n 1, 1) := by decide +kernel
theorem dX7_cell_64 : decode cX7_cell 64 = .ok (.iaload, 1) := by decide +kernel
theorem dX7_cell_65 : decode cX7_cell 65 = .ok (.ireturn, 1) := by decide +kernel
theorem dX7_cell_66 : decode cX7_cell 66 = .ok (.aload_n 0, 1) := by decide +kernel
theorem dX7_cell_67 : decode cX7_cell 67 = .ok (.getfield 27, 3) := by decide +kernel
theorem dX7_cell_70 : decode cX7_cell 70 = .ok (.aload_n 0, 1) := by decide +kernel
theorem dX7_cell_71 : decode cX7_cell 71 = .ok (.getfield 21, 3) := by decide +kernel
theorem dX7_cell_74 : decode cX7_cell 74 = .ok (.iload_n 1, 1) := by decide +kernel
theorem dX7_cell_75 : decode cX7_cell 75 = .ok (.invokevirtual 157, 3) := by decide +kernel
theorem dX7_cell_78 : decode cX7_cell 78 = .ok (.ireturn, 1) := by decide +kernel
theorem dX7_cell_79 : decode cX7_cell 79 = .ok (.aload_n 0, 1) := by decide +kernel
theorem dX7_cell_80 : decode cX7_cell 80 = .ok (.getfield 27, 3) := by decide +kernel
theorem dX7_cell_83 : decode cX7_cell 83 = .ok (.aload_n 0, 1) := by decide +kernel
theorem dX7_cell_84 : decode cX7_cell 84 = .ok (.getfield 21, 3) := by decide +kernel
theorem dX7_cell_87 : decode cX7_cell 87 = .ok (.iload_n 1, 1) := by decide +kernel
theorem dX7_cell_88 : decode cX7_cell 88 = .ok (.invokevirtual 157, 3) := by decide +kernel
theorem dX7_cell_91 : decode cX7_cell 91 = .ok (.aload_n 0, 1) := by decide +kernel
theorem dX7_cell_92 : decode cX7_cell 92 = .ok (.getfield 21, 3) := by decide +kernel
theorem dX7_cell_95 : decode cX7_cell 95 = .ok (.getfield 114, 3) := by decide +kernel
theorem dX7_cell_98 : decode cX7_cell 98 = .ok (.if_icmp .lt 7, 3) := by decide +kernel
theorem dX7_cell_101 : decode cX7_cell 101 = .ok (.iconst 1, 1) := by decide +kernel
theorem dX7_cell_102 : decode cX7_cell 102 = .ok (.goto 4, 3) := by decide +kernel
theorem dX7_cell_105 : decode cX7_cell 105 = .ok (.iconst 0, 1) := by decide +kernel
theorem dX7_cell_106 : decode cX7_cell 106 = .ok (.ireturn, 1) := by decide +kernel
theorem dX7_cell_107 : decode cX7_cell 107 = .ok (.aload_n 0, 1) := by decide +kernel
theorem dX7_cell_108 : decode cX7_cell 108 = .ok (.getfield 27, 3) := by decide +kernel
theorem dX7_cell_111 : decode cX7_cell 111 = .ok (.aload_n 0, 1) := by decide +kernel
theorem dX7_cell_112 : decode cX7_cell 112 = .ok (.getfield 21, 3) := by decide +kernel
theorem dX7_cell_115 : decode cX7_cell 115 = .ok (.invokevirtual 13, 3) := by decide +kernel
theorem dX7_cell_118 : decode cX7_cell 118 = .ok (.iload_n 1, 1) := by decide +kernel
theorem dX7_cell_119 : decode cX7_cell 119 = .ok (.invokestatic 161, 3) := by decide +kernel
theorem dX7_cell_122 : decode cX7_cell 122 = .ok (.ireturn, 1) := by decide +kernel
theorem dX7_cell_123 : decode cX7_cell 123 = .ok (.aload_n 0, 1) := by decide +kernel
theorem dX7_cell_124 : decode cX7_cell 124 = .ok (.getfield 21, 3) := by decide +kernel
theorem dX7_cell_127 : decode cX7_cell 127 = .ok (.getfield 17, 3) := by decide +kernel
theorem dX7_cell_130 : decode cX7_cell 130 = .ok (.iload_n 1, 1) := by decide +kernel
theorem dX7_cell_131 : decode cX7_cell 131 = .ok (.invokestatic 161, 3) := by decide +kernel
theorem dX7_cell_134 : decode cX7_cell 134 = .ok (.ireturn, 1) := by decide +kernel
theorem dX7_cell_135 : decode cX7_cell 135 = .ok (.aload_n 0, 1) := by decide +kernel
theorem dX7_cell_136 : decode cX7_cell 136 = .ok (.getfield 27, 3) := by decide +kernel
theorem dX7_cell_139 : decode cX7_cell 139 = .ok (.aload_n 0, 1) := by decide +kernel
theorem dX7_cell_140 : decode cX7_cell 140 = .ok (.getfield 21, 3) := by decide +kernel
theorem dX7_cell_143 : decode cX7_cell 143 = .ok (.iload_n 1, 1) := by decide +kernel
theorem dX7_cell_144 : decode cX7_cell 144 = .ok (.invokevirtual 165, 3) := by decide +kernel
theorem dX7_cell_147 : decode cX7_cell 147 = .ok (.ireturn, 1) := by decide +kernel
theorem dX7_cell_148 : decode cX7_cell 148 = .ok (.aload_n 0, 1) := by decide +kernel
theorem dX7_cell_149 : decode cX7_cell 149 = .ok (.getfield 21, 3) := by decide +kernel
theorem dX7_cell_152 : decode cX7_cell 152 = .ok (.iload_n 1, 1) := by decide +kernel
theorem dX7_cell_153 : decode cX7_cell 153 = .ok (.invokevirtual 168, 3) := by decide +kernel
theorem dX7_cell_156 : decode cX7_cell 156 = .ok (.ireturn, 1) := by decide +kernel
theorem dX7_cell_157 : decode cX7_cell 157 = .ok (.aload_n 0, 1) := by decide +kernel
theorem dX7_cell_158 : decode cX7_cell 158 = .ok (.getfield 27, 3) := by decide +kernel
theorem dX7_cell_161 : decode cX7_cell 161 = .ok (.getfield 171, 3) := by decide +kernel
theorem dX7_cell_164 : decode cX7_cell 164 = .ok (.aload_n 0, 1) := by decide +kernel
theorem dX7_cell_165 : decode cX7_cell 165 = .ok (.getfield 21, 3) := by decide +kernel
theorem dX7_cell_168 : decode cX7_cell 168 = .ok (.getfield 71, 3) := by decide +kernel
theorem dX7_cell_171 : decode cX7_cell 171 = .ok (.iload_n 1, 1) := by decide +kernel
theorem dX7_cell_172 : decode cX7_cell 172 = .ok (.invokevirtual 175, 3) := by decide +kernel
theorem dX7_cell_175 : decode cX7_cell 175 = .ok (.ireturn, 1) := by decide +kernel
theorem dX7_cell_176 : decode cX7_cell 176 = .ok (.iconst (-1), 1) := by decide +kernel
theorem dX7_cell_177 : decode cX7_cell 177 = .ok (.ireturn, 1) := by decide +kernel
set_option maxRecDepth 20000 in
theorem ggX7_sees_X0_isCell : GoodIn wsX7_sees wsX0_isCell := goodIn_r _ [8] (by decide +kernel) (by decide +kernel)
set_option maxRecDepth 20000 in
theorem gX7_sees_X0_isCell : GoodIn wsX7_sees (va_wsS RX7 58 yX0_isCell wsX0_isCell) := goodIn_app (goodIn_of _ (by decide +kernel)) ggX7_sees_X0_isCell
set_option maxRecDepth 20000 in
theorem ggX7_sees_X7_isWithin : GoodIn wsX7_sees wsX7_isWithin := goodIn_r _ [12] (by decide +kernel) (by decide +kernel)
set_option maxRecDepth 20000 in
theorem gX7_sees_X7_isWithin : GoodIn wsX7_sees (va_wsS RX7 86 yX7_isWithin wsX7_isWithin) := goodIn_app (goodIn_of _ (by decide +kernel)) ggX7_sees_X7_isWithin
set_option maxRecDepth 20000 in
theorem ggX7_sees_X3_isFreeAlong : GoodIn wsX7_sees wsX3_isFreeAlong := goodIn_r _ [17, 18, 19, 20, 21, 22, 23, 24, 25, 16, 26, 27, 28, 29, 30, 31, 32, 33, 34, 35, 74, 75, 76, 77, 78, 79, 80] (by decide +kernel) (by decide +kernel)
set_option maxRecDepth 20000 in
theorem gX7_sees_X3_isFreeAlong : GoodIn wsX7_sees (wsV RX7 181 RX3 yX3_isFreeAlong wsX3_isFreeAlong) := goodIn_app (goodIn_of _ (by decide +kernel)) ggX7_sees_X3_isFreeAlong
set_option maxRecDepth 20000 in
theorem ggX7_sees_X3_isFreeOfEach : GoodIn wsX7_sees wsX3_isFreeOfEach := goodIn_r _ [39, 23, 24, 25, 16, 26, 18, 19, 21, 22, 27, 28, 20, 29, 30, 31, 40, 41, 42, 43, 44, 45, 46, 47, 48, 49, 7, 50, 51, 52, 53, 10, 11, 12, 74, 75, 76, 77, 78, 79, 80] (by decide +kernel) (by decide +kernel)
set_option maxRecDepth 20000 in
theorem gX7_sees_X3_isFreeOfEach : GoodIn wsX7_sees (wsV RX7 185 RX3 yX3_isFreeOfEach wsX3_isFreeOfEach) := goodIn_app (goodIn_of _ (by decide +kernel)) ggX7_sees_X3_isFreeOfEach
theorem dX7_sees_0 : decode cX7_sees 0 = .ok (.iload_n 1, 1) := by decide +kernel
theorem dX7_sees_1 : decode cX7_sees 1 = .ok (.invokestatic 58, 3) := by decide +kernel
theorem dX7_sees_4 : decode cX7_sees 4 = .ok (.ifCond .eq 19, 3) := by decide +kernel
theorem dX7_sees_7 : decode cX7_sees 7 = .ok (.iload_n 2, 1) := by decide +kernel
theorem dX7_sees_8 : decode cX7_sees 8 = .ok (.invokestatic 58, 3) := by decide +kernel
theorem dX7_sees_11 : decode cX7_sees 11 = .ok (.ifCond .eq 12, 3) := by decide +kernel
theorem dX7_sees_14 : decode cX7_sees 14 = .ok (.iload_n 3, 1) := by decide +kernel
theorem dX7_sees_15 : decode cX7_sees 15 = .ok (.iconst 0, 1) := by decide +kernel
theorem dX7_sees_16 : decode cX7_sees 16 = .ok (.iconst 1, 1) := by decide +kernel
theorem dX7_sees_17 : decode cX7_sees 17 = .ok (.invokestatic 86, 3) := by decide +kernel
theorem dX7_sees_20 : decode cX7_sees 20 = .ok (.ifCond .ne 5, 3) := by decide +kernel
theorem dX7_sees_23 : decode cX7_sees 23 = .ok (.iconst (-1), 1) := by decide +kernel
theorem dX7_sees_24 : decode cX7_sees 24 = .ok (.ireturn, 1) := by decide +kernel
theorem dX7_sees_25 : decode cX7_sees 25 = .ok (.iload_n 3, 1) := by decide +kernel
theorem dX7_sees_26 : decode cX7_sees 26 = .ok (.ifCond .ne 25, 3) := by decide +kernel
theorem dX7_sees_29 : decode cX7_sees 29 = .ok (.aload_n 0, 1) := by decide +kernel
theorem dX7_sees_30 : decode cX7_sees 30 = .ok (.getfield 27, 3) := by decide +kernel
theorem dX7_sees_33 : decode cX7_sees 33 = .ok (.getfield 171, 3) := by decide +kernel
theorem dX7_sees_36 : decode cX7_sees 36 = .ok (.aload_n 0, 1) := by decide +kernel
theorem dX7_sees_37 : decode cX7_sees 37 = .ok (.getfield 21, 3) := by decide +kernel
theorem dX7_sees_40 : decode cX7_sees 40 = .ok (.getfield 71, 3) := by decide +kernel
theorem dX7_sees_43 : decode cX7_sees 43 = .ok (.iload_n 1, 1) := by decide +kernel
theorem dX7_sees_44 : decode cX7_sees 44 = .ok (.iload_n 2, 1) := by decide +kernel
theorem dX7_sees_45 : decode cX7_sees 45 = .ok (.invokevirtual 181, 3) := by decide +kernel
theorem dX7_sees_48 : decode cX7_sees 48 = .ok (.goto 22, 3) := by decide +kernel
theorem dX7_sees_51 : decode cX7_sees 51 = .ok (.aload_n 0, 1) := by decide +kernel
theorem dX7_sees_52 : decode cX7_sees 52 = .ok (.getfield 27, 3) := by decide +kernel
theorem dX7_sees_55 : decode cX7_sees 55 = .ok (.getfield 171, 3) := by decide +kernel
theorem dX7_sees_58 : decode cX7_sees 58 = .ok (.aload_n 0, 1) := by decide +kernel
theorem dX7_sees_59 : decode cX7_sees 59 = .ok (.getfield 21, 3) := by decide +kernel
theorem dX7_sees_62 : decode cX7_sees 62 = .ok (.getfield 71, 3) := by decide +kernel
theorem dX7_sees_65 : decode cX7_sees 65 = .ok (.iload_n 1, 1) := by decide +kernel
theorem dX7_sees_66 : decode cX7_sees 66 = .ok (.iload_n 2, 1) := by decide +kernel
theorem dX7_sees_67 : decode cX7_sees 67 = .ok (.invokevirtual 185, 3) := by decide +kernel
theorem dX7_sees_70 : decode cX7_sees 70 = .ok (.istore 4, 2) := by decide +kernel
theorem dX7_sees_72 : decode cX7_sees 72 = .ok (.iload 4, 2) := by decide +kernel
theorem dX7_sees_74 : decode cX7_sees 74 = .ok (.ifCond .eq 7, 3) := by decide +kernel
theorem dX7_sees_77 : decode cX7_sees 77 = .ok (.iconst 1, 1) := by decide +kernel
theorem dX7_sees_78 : decode cX7_sees 78 = .ok (.goto 4, 3) := by decide +kernel
theorem dX7_sees_81 : decode cX7_sees 81 = .ok (.iconst 0, 1) := by decide +kernel
theorem dX7_sees_82 : decode cX7_sees 82 = .ok (.ireturn, 1) := by decide +kernel
set_option maxRecDepth 20000 in
theorem ggX7_stops_X0_isCell : GoodIn wsX7_stops wsX0_isCell := goodIn_r _ [8] (by decide +kernel) (by decide +kernel)
set_option maxRecDepth 20000 in
theorem gX7_stops_X0_isCell : GoodIn wsX7_stops (va_wsS RX7 58 yX0_isCell wsX0_isCell) := goodIn_app (goodIn_of _ (by decide +kernel)) ggX7_stops_X0_isCell
set_option maxRecDepth 20000 in
theorem ggX7_stops_X3_firstStop : GoodIn wsX7_stops wsX3_firstStop := goodIn_r _ [13, 14, 15, 16, 17, 18, 12, 19, 20, 21, 22, 23, 24, 25, 26, 27, 28, 29, 30, 31, 52, 53, 54, 55, 56, 57, 58] (by decide +kernel) (by decide +kernel)
set_option maxRecDepth 20000 in
theorem gX7_stops_X3_firstStop : GoodIn wsX7_stops (wsV RX7 188 RX3 yX3_firstStop wsX3_firstStop) := goodIn_app (goodIn_of _ (by decide +kernel)) ggX7_stops_X3_firstStop
theorem dX7_stops_0 : decode cX7_stops 0 = .ok (.iload_n 1, 1) := by decide +kernel
theorem dX7_stops_1 : decode cX7_stops 1 = .ok (.invokestatic 58, 3) := by decide +kernel
theorem dX7_stops_4 : decode cX7_stops 4 = .ok (.ifCond .eq 10, 3) := by decide +kernel
theorem dX7_stops_7 : decode cX7_stops 7 = .ok (.iload_n 2, 1) := by decide +kernel
theorem dX7_stops_8 : decode cX7_stops 8 = .ok (.invokestatic 58, 3) := by decide +kernel
theorem dX7_stops_11 : decode cX7_stops 11 = .ok (.ifCond .ne 5, 3) := by decide +kernel
theorem dX7_stops_14 : decode cX7_stops 14 = .ok (.iconst (-1), 1) := by decide +kernel
theorem dX7_stops_15 : decode cX7_stops 15 = .ok (.ireturn, 1) := by decide +kernel
theorem dX7_stops_16 : decode cX7_stops 16 = .ok (.aload_n 0, 1) := by decide +kernel
theorem dX7_stops_17 : decode cX7_stops 17 = .ok (.getfield 27, 3) := by decide +kernel
theorem dX7_stops_20 : decode cX7_stops 20 = .ok (.getfield 171, 3) := by decide +kernel
theorem dX7_stops_23 : decode cX7_stops 23 = .ok (.aload_n 0, 1) := by decide +kernel
theorem dX7_stops_24 : decode cX7_stops 24 = .ok (.getfield 21, 3) := by decide +kernel
theorem dX7_stops_27 : decode cX7_stops 27 = .ok (.getfield 71, 3) := by decide +kernel
theorem dX7_stops_30 : decode cX7_stops 30 = .ok (.iload_n 1, 1) := by decide +kernel
theorem dX7_stops_31 : decode cX7_stops 31 = .ok (.iload_n 2, 1) := by decide +kernel
theorem dX7_stops_32 : decode cX7_stops 32 = .ok (.invokevirtual 188, 3) := by decide +kernel
theorem dX7_stops_35 : decode cX7_stops 35 = .ok (.ireturn, 1) := by decide +kernel
set_option maxRecDepth 20000 in
theorem ggX7_lampOf_X5_isLamp : GoodIn wsX7_lampOf wsX5_isLamp := goodIn_r _ [10, 11, 78, 79, 80, 81, 82, 83, 84, 85, 86, 87] (by decide +kernel) (by decide +kernel)
set_option maxRecDepth 20000 in
theorem gX7_lampOf_X5_isLamp : GoodIn wsX7_lampOf (wsV RX7 101 RX5 yX5_isLamp wsX5_isLamp) := goodIn_app (goodIn_of _ (by decide +kernel)) ggX7_lampOf_X5_isLamp
set_option maxRecDepth 20000 in
theorem ggX7_lampOf_X2_reachOfLamp : GoodIn wsX7_lampOf wsX2_reachOfLamp := goodIn_r _ [16, 17, 18, 19, 15, 20, 21, 22, 23, 24, 25, 26, 27, 28, 29, 30, 31, 32, 33, 34, 35, 36, 37, 38, 39, 40, 41, 42, 43, 44, 45, 46, 47, 48, 49, 50, 51, 52, 53, 54, 55, 56, 57, 58, 78, 79, 80, 81, 82, 83, 84, 85, 86, 87, 88, 89, 90, 91, 92, 93, 94, 95, 96] (by decide +kernel) (by decide +kernel)
set_option maxRecDepth 20000 in
theorem gX7_lampOf_X2_reachOfLamp : GoodIn wsX7_lampOf (wsV RX7 195 RX2 yX2_reachOfLamp wsX2_reachOfLamp) := goodIn_app (goodIn_of _ (by decide +kernel)) ggX7_lampOf_X2_reachOfLamp
set_option maxRecDepth 20000 in
theorem ggX7_lampOf_X2_needOfLamp : GoodIn wsX7_lampOf wsX2_needOfLamp := goodIn_r _ [62, 63, 64, 65, 66, 67, 15, 68, 69, 17, 18, 19, 20, 21, 22, 23, 24, 25, 26, 27, 28, 29, 30, 31, 32, 33, 34, 35, 36, 37, 38, 39, 40, 41, 42, 43, 44, 45, 46, 47, 48, 49, 50, 51, 52, 53, 54, 55, 56, 57, 58, 88, 89, 78, 79, 80, 81, 82, 83, 84, 85, 86, 87, 90, 91, 92, 93, 94, 95, 96] (by decide +kernel) (by decide +kernel)
set_option maxRecDepth 20000 in
theorem gX7_lampOf_X2_needOfLamp : GoodIn wsX7_lampOf (wsV RX7 198 RX2 yX2_needOfLamp wsX2_needOfLamp) := goodIn_app (goodIn_of _ (by decide +kernel)) ggX7_lampOf_X2_needOfLamp
theorem dX7_lampOf_0 : decode cX7_lampOf 0 = .ok (.aload_n 0, 1) := by decide +kernel
theorem dX7_lampOf_1 : decode cX7_lampOf 1 = .ok (.getfield 21, 3) := by decide +kernel
theorem dX7_lampOf_4 : decode cX7_lampOf 4 = .ok (.iload_n 1, 1) := by decide +kernel
theorem dX7_lampOf_5 : decode cX7_lampOf 5 = .ok (.invokevirtual 101, 3) := by decide +kernel
theorem dX7_lampOf_8 : decode cX7_lampOf 8 = .ok (.ifCond .ne 5, 3) := by decide +kernel
theorem dX7_lampOf_11 : decode cX7_lampOf 11 = .ok (.iconst (-1), 1) := by decide +kernel
theorem dX7_lampOf_12 : decode cX7_lampOf 12 = .ok (.ireturn, 1) := by decide +kernel
theorem dX7_lampOf_13 : decode cX7_lampOf 13 = .ok (.iload_n 2, 1) := by decide +kernel
theorem dX7_lampOf_14 : decode cX7_lampOf 14 = .ok (.tableswitch 90 0 4 #[34, 44, 54, 67, 80], 34) := by decide +kernel
theorem dX7_lampOf_48 : decode cX7_lampOf 48 = .ok (.aload_n 0, 1) := by decide +kernel
theorem dX7_lampOf_49 : decode cX7_lampOf 49 = .ok (.getfield 21, 3) := by decide +kernel
theorem dX7_lampOf_52 : decode cX7_lampOf 52 = .ok (.getfield 104, 3) := by decide +kernel
theorem dX7_lampOf_55 : decode cX7_lampOf 55 = .ok (.iload_n 1, 1) := by decide +kernel
theorem dX7_lampOf_56 : decode cX7_lampOf 56 = .ok (.iaload, 1) := by decide +kernel
theorem dX7_lampOf_57 : decode cX7_lampOf 57 = .ok (.ireturn, 1) := by decide +kernel
theorem dX7_lampOf_58 : decode cX7_lampOf 58 = .ok (.aload_n 0, 1) := by decide +kernel
theorem dX7_lampOf_59 : decode cX7_lampOf 59 = .ok (.getfield 21, 3) := by decide +kernel
theorem dX7_lampOf_62 : decode cX7_lampOf 62 = .ok (.getfield 192, 3) := by decide +kernel
theorem dX7_lampOf_65 : decode cX7_lampOf 65 = .ok (.iload_n 1, 1) := by decide +kernel
theorem dX7_lampOf_66 : decode cX7_lampOf 66 = .ok (.iaload, 1) := by decide +kernel
theorem dX7_lampOf_67 : decode cX7_lampOf 67 = .ok (.ireturn, 1) := by decide +kernel
theorem dX7_lampOf_68 : decode cX7_lampOf 68 = .ok (.aload_n 0, 1) := by decide +kernel
theorem dX7_lampOf_69 : decode cX7_lampOf 69 = .ok (.getfield 27, 3) := by decide +kernel
theorem dX7_lampOf_72 : decode cX7_lampOf 72 = .ok (.aload_n 0, 1) := by decide +kernel
theorem dX7_lampOf_73 : decode cX7_lampOf 73 = .ok (.getfield 21, 3) := by decide +kernel
theorem dX7_lampOf_76 : decode cX7_lampOf 76 = .ok (.iload_n 1, 1) := by decide +kernel
theorem dX7_lampOf_77 : decode cX7_lampOf 77 = .ok (.invokevirtual 195, 3) := by decide +kernel
theorem dX7_lampOf_80 : decode cX7_lampOf 80 = .ok (.ireturn, 1) := by decide +kernel
theorem dX7_lampOf_81 : decode cX7_lampOf 81 = .ok (.aload_n 0, 1) := by decide +kernel
theorem dX7_lampOf_82 : decode cX7_lampOf 82 = .ok (.getfield 27, 3) := by decide +kernel
theorem dX7_lampOf_85 : decode cX7_lampOf 85 = .ok (.aload_n 0, 1) := by decide +kernel
theorem dX7_lampOf_86 : decode cX7_lampOf 86 = .ok (.getfield 21, 3) := by decide +kernel
theorem dX7_lampOf_89 : decode cX7_lampOf 89 = .ok (.iload_n 1, 1) := by decide +kernel
theorem dX7_lampOf_90 : decode cX7_lampOf 90 = .ok (.invokevirtual 198, 3) := by decide +kernel
theorem dX7_lampOf_93 : decode cX7_lampOf 93 = .ok (.ireturn, 1) := by decide +kernel
theorem dX7_lampOf_94 : decode cX7_lampOf 94 = .ok (.aload_n 0, 1) := by decide +kernel
theorem dX7_lampOf_95 : decode cX7_lampOf 95 = .ok (.getfield 21, 3) := by decide +kernel
theorem dX7_lampOf_98 : decode cX7_lampOf 98 = .ok (.getfield 111, 3) := by decide +kernel
theorem dX7_lampOf_101 : decode cX7_lampOf 101 = .ok (.iload_n 1, 1) := by decide +kernel
theorem dX7_lampOf_102 : decode cX7_lampOf 102 = .ok (.iaload, 1) := by decide +kernel
theorem dX7_lampOf_103 : decode cX7_lampOf 103 = .ok (.ireturn, 1) := by decide +kernel
theorem dX7_lampOf_104 : decode cX7_lampOf 104 = .ok (.iconst (-1), 1) := by decide +kernel
theorem dX7_lampOf_105 : decode cX7_lampOf 105 = .ok (.ireturn, 1) := by decide +kernel
set_option maxRecDepth 20000 in
theorem ggX7_count_X0_isKind : GoodIn wsX7_count wsX0_isKind := goodIn_r _ [5] (by decide +kernel) (by decide +kernel)
set_option maxRecDepth 20000 in
theorem gX7_count_X0_isKind : GoodIn wsX7_count (va_wsS RX7 64 yX0_isKind wsX0_isKind) := goodIn_app (goodIn_of _ (by decide +kernel)) ggX7_count_X0_isKind
set_option maxRecDepth 20000 in
theorem ggX7_count_X5_cellsOfKind : GoodIn wsX7_count wsX5_cellsOfKind := goodIn_r _ [10, 11, 156, 157, 158, 159, 160, 161, 162, 163, 164, 165] (by decide +kernel) (by decide +kernel)
set_option maxRecDepth 20000 in
theorem gX7_count_X5_cellsOfKind : GoodIn wsX7_count (wsV RX7 201 RX5 yX5_cellsOfKind wsX5_cellsOfKind) := goodIn_app (goodIn_of _ (by decide +kernel)) ggX7_count_X5_cellsOfKind
set_option maxRecDepth 20000 in
theorem ggX7_count_X7_isWithin : GoodIn wsX7_count wsX7_isWithin := goodIn_r _ [15] (by decide +kernel) (by decide +kernel)
set_option maxRecDepth 20000 in
theorem gX7_count_X7_isWithin : GoodIn wsX7_count (va_wsS RX7 86 yX7_isWithin wsX7_isWithin) := goodIn_app (goodIn_of _ (by decide +kernel)) ggX7_count_X7_isWithin
set_option maxRecDepth 20000 in
theorem ggX7_count_X7_countOfScene : GoodIn wsX7_count wsX7_countOfScene := goodIn_r _ [19, 20, 1, 21, 22, 23, 24, 25, 26, 27, 28, 29, 30, 31, 32, 33, 34, 35, 36, 37, 38, 39, 40, 41, 42, 43, 44, 45, 46, 47, 48, 49, 50, 51, 4, 52, 53, 54, 55, 56, 57, 58, 59, 60, 61, 62, 63, 64, 65, 66, 67, 68, 69, 70, 71, 72, 73, 74, 75, 76, 77, 78, 79, 80, 81, 82, 83, 84, 85, 86, 87, 88, 89, 90, 91, 92, 93, 94, 95, 96, 97, 98, 99, 100, 101, 102, 103, 104, 105, 106, 107, 108, 109, 110, 111, 112, 113, 114, 115, 116, 9, 117, 11, 118, 119, 120, 121, 122, 123, 124, 14, 125, 148, 149, 150, 151, 152, 153, 154, 155, 156, 157, 158, 159, 160, 161, 162, 163, 164, 165, 166, 167, 168, 169, 170, 171, 172, 173, 174, 175, 176, 177, 178] (by decide +kernel) (by decide +kernel)
set_option maxRecDepth 20000 in
theorem gX7_count_X7_countOfScene : GoodIn wsX7_count (wsV RX7 204 RX7 yX7_countOfScene wsX7_countOfScene) := goodIn_app (goodIn_of _ (by decide +kernel)) ggX7_count_X7_countOfScene
set_option maxRecDepth 20000 in
theorem ggX7_count_X7_countOfRest : GoodIn wsX7_count wsX7_countOfRest := goodIn_r _ [129, 20, 1, 130, 131, 132, 133, 134, 135, 136, 137, 138, 29, 139, 31, 33, 34, 35, 36, 37, 38, 39, 40, 41, 42, 43, 44, 45, 46, 47, 48, 49, 50, 51, 4, 52, 53, 54, 55, 56, 57, 58, 59, 60, 61, 62, 63, 64, 65, 66, 67, 68, 69, 70, 71, 72, 73, 74, 75, 76, 77, 78, 140, 141, 142, 143, 144, 145, 146, 147, 148, 149, 150, 151, 152, 153, 154, 155, 156, 157, 158, 159, 160, 161, 162, 163, 164, 165, 179, 180, 181, 182, 166, 167, 168, 169, 170, 171, 172, 173, 174] (by decide +kernel) (by decide +kernel)
set_option maxRecDepth 20000 in
theorem gX7_count_X7_countOfRest : GoodIn wsX7_count (wsV RX7 207 RX7 yX7_countOfRest wsX7_countOfRest) := goodIn_app (goodIn_of _ (by decide +kernel)) ggX7_count_X7_countOfRest
theorem dX7_count_0 : decode cX7_count 0 = .ok (.iload_n 1, 1) := by decide +kernel
theorem dX7_count_1 : decode cX7_count 1 = .ok (.invokestatic 64, 3) := by decide +kernel
theorem dX7_count_4 : decode cX7_count 4 = .ok (.ifCond .eq 12, 3) := by decide +kernel
theorem dX7_count_7 : decode cX7_count 7 = .ok (.aload_n 0, 1) := by decide +kernel
theorem dX7_count_8 : decode cX7_count 8 = .ok (.getfield 21, 3) := by decide +kernel
theorem dX7_count_11 : decode cX7_count 11 = .ok (.iload_n 1, 1) := by decide +kernel
theorem dX7_count_12 : decode cX7_count 12 = .ok (.invokevirtual 201, 3) := by decide +kernel
theorem dX7_count_15 : decode cX7_count 15 = .ok (.ireturn, 1) := by decide +kernel
theorem dX7_count_16 : decode cX7_count 16 = .ok (.iload_n 1, 1) := by decide +kernel
theorem dX7_count_17 : decode cX7_count 17 = .ok (.iconst 4, 1) := by decide +kernel
theorem dX7_count_18 : decode cX7_count 18 = .ok (.bipush 10, 2) := by decide +kernel
theorem dX7_count_20 : decode cX7_count 20 = .ok (.invokestatic 86, 3) := by decide +kernel
theorem dX7_count_23 : decode cX7_count 23 = .ok (.ifCond .eq 11, 3) := by decide +kernel
theorem dX7_count_26 : decode cX7_count 26 = .ok (.aload_n 0, 1) := by decide +kernel
theorem dX7_count_27 : decode cX7_count 27 = .ok (.iload_n 1, 1) := by decide +kernel
theorem dX7_count_28 : decode cX7_count 28 = .ok (.invokevirtual 204, 3) := by decide +kernel
theorem dX7_count_31 : decode cX7_count 31 = .ok (.goto 8, 3) := by decide +kernel
theorem dX7_count_34 : decode cX7_count 34 = .ok (.aload_n 0, 1) := by decide +kernel
theorem dX7_count_35 : decode cX7_count 35 = .ok (.iload_n 1, 1) := by decide +kernel
theorem dX7_count_36 : decode cX7_count 36 = .ok (.invokevirtual 207, 3) := by decide +kernel
theorem dX7_count_39 : decode cX7_count 39 = .ok (.ireturn, 1) := by decide +kernel
set_option maxRecDepth 20000 in
theorem ggX7_countOfScene_X2_litCells : GoodIn wsX7_countOfScene wsX2_litCells := goodIn_r _ [12, 13, 14, 15, 16, 17, 11, 18, 19, 20, 21, 22, 23, 24, 25, 26, 27, 28, 29, 30, 31, 32, 33, 34, 35, 36, 37, 38, 39, 40, 41, 42, 43, 44, 45, 46, 47, 48, 49, 50, 51, 52, 53, 54, 55, 56, 57, 58, 59, 60, 61, 130, 131, 120, 121, 122, 123, 124, 125, 126, 127, 128, 129, 132, 133, 134, 135, 136, 137, 138] (by decide +kernel) (by decide +kernel)
set_option maxRecDepth 20000 in
theorem gX7_countOfScene_X2_litCells : GoodIn wsX7_countOfScene (wsV RX7 210 RX2 yX2_litCells wsX2_litCells) := goodIn_app (goodIn_of _ (by decide +kernel)) ggX7_countOfScene_X2_litCells
set_option maxRecDepth 20000 in
theorem ggX7_countOfScene_X2_seenCells : GoodIn wsX7_countOfScene wsX2_seenCells := goodIn_r _ [65, 13, 14, 27, 28, 66, 15, 16, 17, 11, 18, 19, 20, 21, 22, 23, 24, 25, 26, 29, 30, 31, 32, 33, 34, 35, 36, 37, 38, 39, 40, 41, 42, 43, 44, 45, 46, 47, 48, 49, 50, 51, 52, 53, 54, 55, 56, 57, 58, 59, 60, 61, 67, 68, 69, 70, 71, 72, 73, 74, 75, 76, 77, 78, 79, 80, 81, 82, 130, 131, 120, 121, 122, 123, 124, 125, 126, 127, 128, 129, 132, 133, 134, 135, 136, 137, 138] (by decide +kernel) (by decide +kernel)
set_option maxRecDepth 20000 in
theorem gX7_countOfScene_X2_seenCells : GoodIn wsX7_countOfScene (wsV RX7 13 RX2 yX2_seenCells wsX2_seenCells) := goodIn_app (goodIn_of _ (by decide +kernel)) ggX7_countOfScene_X2_seenCells
set_option maxRecDepth 20000 in
theorem ggX7_countOfScene_J13_bitCount_95d88 : GoodIn wsX7_countOfScene wsJ13_bitCount_95d88 := goodIn_r _ [86, 87, 88, 89] (by decide +kernel) (by decide +kernel)
set_option maxRecDepth 20000 in
theorem gX7_countOfScene_J13_bitCount_95d88 : GoodIn wsX7_countOfScene (va_wsS RX7 130 yJ13_bitCount_95d88 wsJ13_bitCount_95d88) := goodIn_app (goodIn_of _ (by decide +kernel)) ggX7_countOfScene_J13_bitCount_95d88
set_option maxRecDepth 20000 in
theorem ggX7_countOfScene_X6_reachedCells : GoodIn wsX7_countOfScene wsX6_reachedCells := goodIn_r _ [94, 95, 96, 97, 98, 99, 100, 101, 102, 103, 104, 34, 105, 78, 33, 35, 82, 37, 38, 106, 107, 108, 109, 110, 111, 120, 121, 122, 123, 124, 125, 126, 127, 128, 129, 139, 140, 141, 142] (by decide +kernel) (by decide +kernel)
set_option maxRecDepth 20000 in
theorem gX7_countOfScene_X6_reachedCells : GoodIn wsX7_countOfScene (wsV RX7 213 RX6 yX6_reachedCells wsX6_reachedCells) := goodIn_app (goodIn_of _ (by decide +kernel)) ggX7_countOfScene_X6_reachedCells
theorem dX7_countOfScene_0 : decode cX7_countOfScene 0 = .ok (.iload_n 1, 1) := by decide +kernel
theorem dX7_countOfScene_1 : decode cX7_countOfScene 1 = .ok (.tableswitch 106 4 9 #[39, 52, 67, 78, 90, 98], 39) := by decide +kernel
theorem dX7_countOfScene_40 : decode cX7_countOfScene 40 = .ok (.aload_n 0, 1) := by decide +kernel
theorem dX7_countOfScene_41 : decode cX7_countOfScene 41 = .ok (.getfield 27, 3) := by decide +kernel
theorem dX7_countOfScene_44 : decode cX7_countOfScene 44 = .ok (.aload_n 0, 1) := by decide +kernel
theorem dX7_countOfScene_45 : decode cX7_countOfScene 45 = .ok (.getfield 21, 3) := by decide +kernel
theorem dX7_countOfScene_48 : decode cX7_countOfScene 48 = .ok (.iconst 0, 1) := by decide +kernel
theorem dX7_countOfScene_49 : decode cX7_countOfScene 49 = .ok (.invokevirtual 210, 3) := by decide +kernel
theorem dX7_countOfScene_52 : decode cX7_countOfScene 52 = .ok (.ireturn, 1) := by decide +kernel
theorem dX7_countOfScene_53 : decode cX7_countOfScene 53 = .ok (.aload_n 0, 1) := by decide +kernel
theorem dX7_countOfScene_54 : decode cX7_countOfScene 54 = .ok (.getfield 27, 3) := by decide +kernel
theorem dX7_countOfScene_57 : decode cX7_countOfScene 57 = .ok (.aload_n 0, 1) := by decide +kernel
theorem dX7_countOfScene_58 : decode cX7_countOfScene 58 = .ok (.getfield 21, 3) := by decide +kernel
theorem dX7_countOfScene_61 : decode cX7_countOfScene 61 = .ok (.invokevirtual 13, 3) := by decide +kernel
theorem dX7_countOfScene_64 : decode cX7_countOfScene 64 = .ok (.invokestatic 130, 3) := by decide +kernel
theorem dX7_countOfScene_67 : decode cX7_countOfScene 67 = .ok (.ireturn, 1) := by decide +kernel
theorem dX7_countOfScene_68 : decode cX7_countOfScene 68 = .ok (.aload_n 0, 1) := by decide +kernel
theorem dX7_countOfScene_69 : decode cX7_countOfScene 69 = .ok (.getfield 21, 3) := by decide +kernel
theorem dX7_countOfScene_72 : decode cX7_countOfScene 72 = .ok (.getfield 17, 3) := by decide +kernel
theorem dX7_countOfScene_75 : decode cX7_countOfScene 75 = .ok (.invokestatic 130, 3) := by decide +kernel
theorem dX7_countOfScene_78 : decode cX7_countOfScene 78 = .ok (.ireturn, 1) := by decide +kernel
theorem dX7_countOfScene_79 : decode cX7_countOfScene 79 = .ok (.aload_n 0, 1) := by decide +kernel
theorem dX7_countOfScene_80 : decode cX7_countOfScene 80 = .ok (.getfield 54, 3) := by decide +kernel
theorem dX7_countOfScene_83 : decode cX7_countOfScene 83 = .ok (.aload_n 0, 1) := by decide +kernel
theorem dX7_countOfScene_84 : decode cX7_countOfScene 84 = .ok (.getfield 21, 3) := by decide +kernel
theorem dX7_countOfScene_87 : decode cX7_countOfScene 87 = .ok (.invokevirtual 213, 3) := by decide +kernel
theorem dX7_countOfScene_90 : decode cX7_countOfScene 90 = .ok (.ireturn, 1) := by decide +kernel
theorem dX7_countOfScene_91 : decode cX7_countOfScene 91 = .ok (.aload_n 0, 1) := by decide +kernel
theorem dX7_countOfScene_92 : decode cX7_countOfScene 92 = .ok (.getfield 21, 3) := by decide +kernel
theorem dX7_countOfScene_95 : decode cX7_countOfScene 95 = .ok (.getfield 93, 3) := by decide +kernel
theorem dX7_countOfScene_98 : decode cX7_countOfScene 98 = .ok (.ireturn, 1) := by decide +kernel
theorem dX7_countOfScene_99 : decode cX7_countOfScene 99 = .ok (.aload_n 0, 1) := by decide +kernel
theorem dX7_countOfScene_100 : decode cX7_countOfScene 100 = .ok (.getfield 21, 3) := by decide +kernel
theorem dX7_countOfScene_103 : decode cX7_countOfScene 103 = .ok (.getfield 120, 3) := by decide +kernel
theorem dX7_countOfScene_106 : decode cX7_countOfScene 106 = .ok (.ireturn, 1) := by decide +kernel
theorem dX7_countOfScene_107 : decode cX7_countOfScene 107 = .ok (.aload_n 0, 1) := by decide +kernel
theorem dX7_countOfScene_108 : decode cX7_countOfScene 108 = .ok (.getfield 21, 3) := by decide +kernel
theorem dX7_countOfScene_111 : decode cX7_countOfScene 111 = .ok (.getfield 217, 3) := by decide +kernel
theorem dX7_countOfScene_114 : decode cX7_countOfScene 114 = .ok (.ireturn, 1) := by decide +kernel
set_option maxRecDepth 20000 in
theorem ggX7_countOfRest_X2_sum : GoodIn wsX7_countOfRest wsX2_sum := goodIn_r _ [13, 14, 15, 16, 17, 12, 18, 19, 20, 21, 22, 23, 24, 25, 26, 27, 28, 29, 30, 31, 32, 33, 34, 35, 36, 37, 38, 39, 40, 41, 42, 43, 44, 45, 46, 47, 48, 49, 50, 51, 52, 53, 54, 55, 56, 57, 58, 59, 60, 61, 92, 93, 78, 79, 80, 81, 82, 83, 84, 85, 86, 87, 94, 95, 96, 97, 98, 99, 100] (by decide +kernel) (by decide +kernel)
set_option maxRecDepth 20000 in
theorem gX7_countOfRest_X2_sum : GoodIn wsX7_countOfRest (wsV RX7 220 RX2 yX2_sum wsX2_sum) := goodIn_app (goodIn_of _ (by decide +kernel)) ggX7_countOfRest_X2_sum
set_option maxRecDepth 20000 in
theorem ggX7_countOfRest_X2_brightest : GoodIn wsX7_countOfRest wsX2_brightest := goodIn_r _ [65, 14, 15, 16, 17, 12, 18, 19, 20, 21, 22, 23, 24, 25, 26, 27, 28, 29, 30, 31, 32, 33, 34, 35, 36, 37, 38, 39, 40, 41, 42, 43, 44, 45, 46, 47, 48, 49, 50, 51, 52, 53, 54, 55, 56, 57, 58, 59, 60, 61, 92, 93, 78, 79, 80, 81, 82, 83, 84, 85, 86, 87, 94, 95, 96, 97, 98, 99, 100] (by decide +kernel) (by decide +kernel)
set_option maxRecDepth 20000 in
theorem gX7_countOfRest_X2_brightest : GoodIn wsX7_countOfRest (wsV RX7 223 RX2 yX2_brightest wsX2_brightest) := goodIn_app (goodIn_of _ (by decide +kernel)) ggX7_countOfRest_X2_brightest
set_option maxRecDepth 20000 in
theorem ggX7_countOfRest_X2_at : GoodIn wsX7_countOfRest wsX2_at := goodIn_r _ [69, 19, 20, 21, 22, 12, 23, 24, 25, 26, 27, 28, 29, 30, 31, 32, 33, 34, 35, 36, 37, 38, 39, 40, 41, 42, 43, 44, 45, 46, 47, 48, 49, 50, 51, 52, 53, 54, 55, 56, 57, 58, 59, 60, 61, 78, 79, 80, 81, 82, 83, 84, 85, 86, 87, 92, 93, 94, 95, 96, 97, 98, 99, 100] (by decide +kernel) (by decide +kernel)
set_option maxRecDepth 20000 in
theorem gX7_countOfRest_X2_at : GoodIn wsX7_countOfRest (wsV RX7 157 RX2 yX2_at wsX2_at) := goodIn_app (goodIn_of _ (by decide +kernel)) ggX7_countOfRest_X2_at
theorem dX7_countOfRest_0 : decode cX7_countOfRest 0 = .ok (.iload_n 1, 1) := by decide +kernel
theorem dX7_countOfRest_1 : decode cX7_countOfRest 1 = .ok (.tableswitch 122 11 17 #[43, 55, 78, 90, 98, 106, 114], 43) := by decide +kernel
theorem dX7_countOfRest_44 : decode cX7_countOfRest 44 = .ok (.aload_n 0, 1) := by decide +kernel
theorem dX7_countOfRest_45 : decode cX7_countOfRest 45 = .ok (.getfield 27, 3) := by decide +kernel
theorem dX7_countOfRest_48 : decode cX7_countOfRest 48 = .ok (.aload_n 0, 1) := by decide +kernel
theorem dX7_countOfRest_49 : decode cX7_countOfRest 49 = .ok (.getfield 21, 3) := by decide +kernel
theorem dX7_countOfRest_52 : decode cX7_countOfRest 52 = .ok (.invokevirtual 220, 3) := by decide +kernel
theorem dX7_countOfRest_55 : decode cX7_countOfRest 55 = .ok (.ireturn, 1) := by decide +kernel
theorem dX7_countOfRest_56 : decode cX7_countOfRest 56 = .ok (.aload_n 0, 1) := by decide +kernel
theorem dX7_countOfRest_57 : decode cX7_countOfRest 57 = .ok (.getfield 27, 3) := by decide +kernel
theorem dX7_countOfRest_60 : decode cX7_countOfRest 60 = .ok (.aload_n 0, 1) := by decide +kernel
theorem dX7_countOfRest_61 : decode cX7_countOfRest 61 = .ok (.getfield 21, 3) := by decide +kernel
theorem dX7_countOfRest_64 : decode cX7_countOfRest 64 = .ok (.aload_n 0, 1) := by decide +kernel
theorem dX7_countOfRest_65 : decode cX7_countOfRest 65 = .ok (.getfield 27, 3) := by decide +kernel
theorem dX7_countOfRest_68 : decode cX7_countOfRest 68 = .ok (.aload_n 0, 1) := by decide +kernel
theorem dX7_countOfRest_69 : decode cX7_countOfRest 69 = .ok (.getfield 21, 3) := by decide +kernel
theorem dX7_countOfRest_72 : decode cX7_countOfRest 72 = .ok (.invokevirtual 223, 3) := by decide +kernel
theorem dX7_countOfRest_75 : decode cX7_countOfRest 75 = .ok (.invokevirtual 157, 3) := by decide +kernel
theorem dX7_countOfRest_78 : decode cX7_countOfRest 78 = .ok (.ireturn, 1) := by decide +kernel
theorem dX7_countOfRest_79 : decode cX7_countOfRest 79 = .ok (.aload_n 0, 1) := by decide +kernel
theorem dX7_countOfRest_80 : decode cX7_countOfRest 80 = .ok (.getfield 27, 3) := by decide +kernel
theorem dX7_countOfRest_83 : decode cX7_countOfRest 83 = .ok (.aload_n 0, 1) := by decide +kernel
theorem dX7_countOfRest_84 : decode cX7_countOfRest 84 = .ok (.getfield 21, 3) := by decide +kernel
theorem dX7_countOfRest_87 : decode cX7_countOfRest 87 = .ok (.invokevirtual 223, 3) := by decide +kernel
theorem dX7_countOfRest_90 : decode cX7_countOfRest 90 = .ok (.ireturn, 1) := by decide +kernel
theorem dX7_countOfRest_91 : decode cX7_countOfRest 91 = .ok (.aload_n 0, 1) := by decide +kernel
theorem dX7_countOfRest_92 : decode cX7_countOfRest 92 = .ok (.getfield 21, 3) := by decide +kernel
theorem dX7_countOfRest_95 : decode cX7_countOfRest 95 = .ok (.getfield 114, 3) := by decide +kernel
theorem dX7_countOfRest_98 : decode cX7_countOfRest 98 = .ok (.ireturn, 1) := by decide +kernel
theorem dX7_countOfRest_99 : decode cX7_countOfRest 99 = .ok (.aload_n 0, 1) := by decide +kernel
theorem dX7_countOfRest_100 : decode cX7_countOfRest 100 = .ok (.getfield 21, 3) := by decide +kernel
theorem dX7_countOfRest_103 : decode cX7_countOfRest 103 = .ok (.getfield 117, 3) := by decide +kernel
theorem dX7_countOfRest_106 : decode cX7_countOfRest 106 = .ok (.ireturn, 1) := by decide +kernel
theorem dX7_countOfRest_107 : decode cX7_countOfRest 107 = .ok (.aload_n 0, 1) := by decide +kernel
theorem dX7_countOfRest_108 : decode cX7_countOfRest 108 = .ok (.getfield 47, 3) := by decide +kernel
theorem dX7_countOfRest_111 : decode cX7_countOfRest 111 = .ok (.getfield 136, 3) := by decide +kernel
theorem dX7_countOfRest_114 : decode cX7_countOfRest 114 = .ok (.ireturn, 1) := by decide +kernel
theorem dX7_countOfRest_115 : decode cX7_countOfRest 115 = .ok (.aload_n 0, 1) := by decide +kernel
theorem dX7_countOfRest_116 : decode cX7_countOfRest 116 = .ok (.getfield 40, 3) := by decide +kernel
theorem dX7_countOfRest_119 : decode cX7_countOfRest 119 = .ok (.getfield 226, 3) := by decide +kernel
theorem dX7_countOfRest_122 : decode cX7_countOfRest 122 = .ok (.ireturn, 1) := by decide +kernel
theorem dX7_countOfRest_123 : decode cX7_countOfRest 123 = .ok (.iconst (-1), 1) := by decide +kernel
theorem dX7_countOfRest_124 : decode cX7_countOfRest 124 = .ok (.ireturn, 1) := by decide +kernel
set_option maxRecDepth 20000 in
theorem ggX7_litShare_X2_litCells : GoodIn wsX7_litShare wsX2_litCells := goodIn_r _ [8, 9, 10, 11, 12, 13, 7, 14, 15, 16, 17, 18, 19, 20, 21, 22, 23, 24, 25, 26, 27, 28, 29, 30, 31, 32, 33, 34, 35, 36, 37, 38, 39, 40, 41, 42, 43, 44, 45, 46, 47, 48, 49, 50, 51, 52, 53, 54, 55, 56, 57, 66, 67, 68, 69, 70, 71, 72, 73, 74, 75, 76, 77, 78, 79, 80, 81, 82, 83, 84] (by decide +kernel) (by decide +kernel)
set_option maxRecDepth 20000 in
theorem gX7_litShare_X2_litCells : GoodIn wsX7_litShare (wsV RX7 210 RX2 yX2_litCells wsX2_litCells) := goodIn_app (goodIn_of _ (by decide +kernel)) ggX7_litShare_X2_litCells
theorem dX7_litShare_0 : decode cX7_litShare 0 = .ok (.aload_n 0, 1) := by decide +kernel
theorem dX7_litShare_1 : decode cX7_litShare 1 = .ok (.getfield 27, 3) := by decide +kernel
theorem dX7_litShare_4 : decode cX7_litShare 4 = .ok (.aload_n 0, 1) := by decide +kernel
theorem dX7_litShare_5 : decode cX7_litShare 5 = .ok (.getfield 21, 3) := by decide +kernel
theorem dX7_litShare_8 : decode cX7_litShare 8 = .ok (.iconst 0, 1) := by decide +kernel
theorem dX7_litShare_9 : decode cX7_litShare 9 = .ok (.invokevirtual 210, 3) := by decide +kernel
theorem dX7_litShare_12 : decode cX7_litShare 12 = .ok (.i2d, 1) := by decide +kernel
theorem dX7_litShare_13 : decode cX7_litShare 13 = .ok (.ldc2_w 229, 3) := by decide +kernel
theorem dX7_litShare_16 : decode cX7_litShare 16 = .ok (.ddiv, 1) := by decide +kernel
theorem dX7_litShare_17 : decode cX7_litShare 17 = .ok (.dreturn, 1) := by decide +kernel
set_option maxRecDepth 20000 in
theorem ggX7_exposure_X0_isCell : GoodIn wsX7_exposure wsX0_isCell := goodIn_r _ [8] (by decide +kernel) (by decide +kernel)
set_option maxRecDepth 20000 in
theorem gX7_exposure_X0_isCell : GoodIn wsX7_exposure (va_wsS RX7 58 yX0_isCell wsX0_isCell) := goodIn_app (goodIn_of _ (by decide +kernel)) ggX7_exposure_X0_isCell
set_option maxRecDepth 20000 in
theorem ggX7_exposure_X7_isWithin : GoodIn wsX7_exposure wsX7_isWithin := goodIn_r _ [12] (by decide +kernel) (by decide +kernel)
set_option maxRecDepth 20000 in
theorem gX7_exposure_X7_isWithin : GoodIn wsX7_exposure (va_wsS RX7 86 yX7_isWithin wsX7_isWithin) := goodIn_app (goodIn_of _ (by decide +kernel)) ggX7_exposure_X7_isWithin
set_option maxRecDepth 20000 in
theorem ggX7_exposure_X6_weigh : GoodIn wsX7_exposure wsX6_weigh := goodIn_r _ [17, 18, 19, 20, 21, 7, 22, 23, 24, 25, 26, 27, 28, 29, 30, 31, 32, 33, 34, 35, 36, 37, 38, 39, 40, 41, 42, 43, 44, 45, 46, 47, 48, 49, 50, 51, 52, 53, 54, 55, 56, 57, 58, 59, 60, 61, 62, 63, 64, 65, 66, 67, 68, 69, 120, 121, 122, 123, 110, 111, 112, 113, 114, 115, 116, 117, 118, 119, 124, 125, 126, 127, 128, 129, 130, 131, 132] (by decide +kernel) (by decide +kernel)
set_option maxRecDepth 20000 in
theorem gX7_exposure_X6_weigh : GoodIn wsX7_exposure (wsV RX7 231 RX6 yX6_weigh wsX6_weigh) := goodIn_app (goodIn_of _ (by decide +kernel)) ggX7_exposure_X6_weigh
set_option maxRecDepth 20000 in
theorem ggX7_exposure_X6_settleFrom : GoodIn wsX7_exposure wsX6_settleFrom := goodIn_r _ [73, 74, 75, 76, 77, 16, 78, 79, 80, 81, 82, 83, 84, 85, 86, 87, 88, 18, 89, 90, 7, 91, 92, 42, 43, 93, 45, 46, 120, 121, 122, 123] (by decide +kernel) (by decide +kernel)
set_option maxRecDepth 20000 in
theorem gX7_exposure_X6_settleFrom : GoodIn wsX7_exposure (wsV RX7 235 RX6 yX6_settleFrom wsX6_settleFrom) := goodIn_app (goodIn_of _ (by decide +kernel)) ggX7_exposure_X6_settleFrom
set_option maxRecDepth 20000 in
theorem ggX7_exposure_X6_lessenFrom : GoodIn wsX7_exposure wsX6_lessenFrom := goodIn_r _ [97, 79, 80, 75, 76, 77, 16, 78, 74, 85, 86, 87, 88, 18, 89, 90, 7, 91, 92, 42, 43, 93, 45, 46, 120, 121, 122, 123] (by decide +kernel) (by decide +kernel)
set_option maxRecDepth 20000 in
theorem gX7_exposure_X6_lessenFrom : GoodIn wsX7_exposure (wsV RX7 238 RX6 yX6_lessenFrom wsX6_lessenFrom) := goodIn_app (goodIn_of _ (by decide +kernel)) ggX7_exposure_X6_lessenFrom
set_option maxRecDepth 20000 in
theorem ggX7_exposure_X6_leastTo : GoodIn wsX7_exposure wsX6_leastTo := goodIn_r _ [101, 79, 80, 120, 121, 122, 123] (by decide +kernel) (by decide +kernel)
set_option maxRecDepth 20000 in
theorem gX7_exposure_X6_leastTo : GoodIn wsX7_exposure (wsV RX7 241 RX6 yX6_leastTo wsX6_leastTo) := goodIn_app (goodIn_of _ (by decide +kernel)) ggX7_exposure_X6_leastTo
theorem dX7_exposure_0 : decode cX7_exposure 0 = .ok (.iload_n 1, 1) := by decide +kernel
theorem dX7_exposure_1 : decode cX7_exposure 1 = .ok (.invokestatic 58, 3) := by decide +kernel
theorem dX7_exposure_4 : decode cX7_exposure 4 = .ok (.ifCond .eq 12, 3) := by decide +kernel
theorem dX7_exposure_7 : decode cX7_exposure 7 = .ok (.iload_n 2, 1) := by decide +kernel
theorem dX7_exposure_8 : decode cX7_exposure 8 = .ok (.iconst 0, 1) := by decide +kernel
theorem dX7_exposure_9 : decode cX7_exposure 9 = .ok (.iconst 1, 1) := by decide +kernel
theorem dX7_exposure_10 : decode cX7_exposure 10 = .ok (.invokestatic 86, 3) := by decide +kernel
theorem dX7_exposure_13 : decode cX7_exposure 13 = .ok (.ifCond .ne 5, 3) := by decide +kernel
theorem dX7_exposure_16 : decode cX7_exposure 16 = .ok (.iconst (-1), 1) := by decide +kernel
theorem dX7_exposure_17 : decode cX7_exposure 17 = .ok (.ireturn, 1) := by decide +kernel
theorem dX7_exposure_18 : decode cX7_exposure 18 = .ok (.aload_n 0, 1) := by decide +kernel
theorem dX7_exposure_19 : decode cX7_exposure 19 = .ok (.getfield 54, 3) := by decide +kernel
theorem dX7_exposure_22 : decode cX7_exposure 22 = .ok (.aload_n 0, 1) := by decide +kernel
theorem dX7_exposure_23 : decode cX7_exposure 23 = .ok (.getfield 21, 3) := by decide +kernel
theorem dX7_exposure_26 : decode cX7_exposure 26 = .ok (.aload_n 0, 1) := by decide +kernel
theorem dX7_exposure_27 : decode cX7_exposure 27 = .ok (.getfield 27, 3) := by decide +kernel
theorem dX7_exposure_30 : decode cX7_exposure 30 = .ok (.invokevirtual 231, 3) := by decide +kernel
theorem dX7_exposure_33 : decode cX7_exposure 33 = .ok (.iload_n 2, 1) := by decide +kernel
theorem dX7_exposure_34 : decode cX7_exposure 34 = .ok (.ifCond .ne 20, 3) := by decide +kernel
theorem dX7_exposure_37 : decode cX7_exposure 37 = .ok (.aload_n 0, 1) := by decide +kernel
theorem dX7_exposure_38 : decode cX7_exposure 38 = .ok (.getfield 54, 3) := by decide +kernel
theorem dX7_exposure_41 : decode cX7_exposure 41 = .ok (.aload_n 0, 1) := by decide +kernel
theorem dX7_exposure_42 : decode cX7_exposure 42 = .ok (.getfield 21, 3) := by decide +kernel
theorem dX7_exposure_45 : decode cX7_exposure 45 = .ok (.getfield 120, 3) := by decide +kernel
theorem dX7_exposure_48 : decode cX7_exposure 48 = .ok (.invokevirtual 235, 3) := by decide +kernel
theorem dX7_exposure_51 : decode cX7_exposure 51 = .ok (.goto 17, 3) := by decide +kernel
theorem dX7_exposure_54 : decode cX7_exposure 54 = .ok (.aload_n 0, 1) := by decide +kernel
theorem dX7_exposure_55 : decode cX7_exposure 55 = .ok (.getfield 54, 3) := by decide +kernel
theorem dX7_exposure_58 : decode cX7_exposure 58 = .ok (.aload_n 0, 1) := by decide +kernel
theorem dX7_exposure_59 : decode cX7_exposure 59 = .ok (.getfield 21, 3) := by decide +kernel
theorem dX7_exposure_62 : decode cX7_exposure 62 = .ok (.getfield 120, 3) := by decide +kernel
theorem dX7_exposure_65 : decode cX7_exposure 65 = .ok (.invokevirtual 238, 3) := by decide +kernel
theorem dX7_exposure_68 : decode cX7_exposure 68 = .ok (.aload_n 0, 1) := by decide +kernel
theorem dX7_exposure_69 : decode cX7_exposure 69 = .ok (.getfield 54, 3) := by decide +kernel
theorem dX7_exposure_72 : decode cX7_exposure 72 = .ok (.iload_n 1, 1) := by decide +kernel
theorem dX7_exposure_73 : decode cX7_exposure 73 = .ok (.invokevirtual 241, 3) := by decide +kernel
theorem dX7_exposure_76 : decode cX7_exposure 76 = .ok (.ireturn, 1) := by decide +kernel
set_option maxRecDepth 20000 in
theorem ggX7_way_X0_isCell : GoodIn wsX7_way wsX0_isCell := goodIn_r _ [9] (by decide +kernel) (by decide +kernel)
set_option maxRecDepth 20000 in
theorem gX7_way_X0_isCell : GoodIn wsX7_way (va_wsS RX7 58 yX0_isCell wsX0_isCell) := goodIn_app (goodIn_of _ (by decide +kernel)) ggX7_way_X0_isCell
set_option maxRecDepth 20000 in
theorem ggX7_way_X0_stopsFeet : GoodIn wsX7_way wsX0_stopsFeet := goodIn_r _ [12] (by decide +kernel) (by decide +kernel)
set_option maxRecDepth 20000 in
theorem gX7_way_X0_stopsFeet : GoodIn wsX7_way (va_wsS RX7 244 yX0_stopsFeet wsX0_stopsFeet) := goodIn_app (goodIn_of _ (by decide +kernel)) ggX7_way_X0_stopsFeet
set_option maxRecDepth 20000 in
theorem ggX7_way_X6_weigh : GoodIn wsX7_way wsX6_weigh := goodIn_r _ [17, 18, 19, 20, 11, 8, 12, 21, 22, 23, 24, 25, 26, 27, 28, 29, 30, 31, 32, 33, 34, 35, 36, 37, 38, 39, 40, 41, 42, 43, 44, 45, 46, 47, 48, 49, 50, 51, 52, 53, 54, 55, 56, 57, 58, 59, 60, 61, 62, 63, 64, 65, 66, 67, 118, 119, 120, 121, 108, 109, 110, 111, 112, 113, 114, 115, 116, 117, 122, 123, 124, 125, 126, 127, 128, 129, 130] (by decide +kernel) (by decide +kernel)
set_option maxRecDepth 20000 in
theorem gX7_way_X6_weigh : GoodIn wsX7_way (wsV RX7 231 RX6 yX6_weigh wsX6_weigh) := goodIn_app (goodIn_of _ (by decide +kernel)) ggX7_way_X6_weigh
set_option maxRecDepth 20000 in
theorem ggX7_way_X6_settleFrom : GoodIn wsX7_way wsX6_settleFrom := goodIn_r _ [71, 72, 73, 74, 75, 16, 76, 77, 78, 79, 80, 81, 82, 83, 84, 85, 86, 18, 87, 88, 8, 89, 90, 40, 41, 91, 43, 44, 118, 119, 120, 121] (by decide +kernel) (by decide +kernel)
set_option maxRecDepth 20000 in
theorem gX7_way_X6_settleFrom : GoodIn wsX7_way (wsV RX7 235 RX6 yX6_settleFrom wsX6_settleFrom) := goodIn_app (goodIn_of _ (by decide +kernel)) ggX7_way_X6_settleFrom
set_option maxRecDepth 20000 in
theorem ggX7_way_X6_cellOnWay : GoodIn wsX7_way wsX6_cellOnWay := goodIn_r _ [95, 77, 78, 96, 97, 98, 16, 99, 18, 87, 88, 8, 89, 90, 40, 41, 91, 43, 44, 118, 119, 120, 121] (by decide +kernel) (by decide +kernel)
set_option maxRecDepth 20000 in
theorem gX7_way_X6_cellOnWay : GoodIn wsX7_way (wsV RX7 247 RX6 yX6_cellOnWay wsX6_cellOnWay) := goodIn_app (goodIn_of _ (by decide +kernel)) ggX7_way_X6_cellOnWay
theorem dX7_way_0 : decode cX7_way 0 = .ok (.iload_n 1, 1) := by decide +kernel
theorem dX7_way_1 : decode cX7_way 1 = .ok (.invokestatic 58, 3) := by decide +kernel
theorem dX7_way_4 : decode cX7_way 4 = .ok (.ifCond .eq 7, 3) := by decide +kernel
theorem dX7_way_7 : decode cX7_way 7 = .ok (.iload_n 2, 1) := by decide +kernel
theorem dX7_way_8 : decode cX7_way 8 = .ok (.ifCond .ge 5, 3) := by decide +kernel
theorem dX7_way_11 : decode cX7_way 11 = .ok (.iconst (-1), 1) := by decide +kernel
theorem dX7_way_12 : decode cX7_way 12 = .ok (.ireturn, 1) := by decide +kernel
theorem dX7_way_13 : decode cX7_way 13 = .ok (.iload_n 2, 1) := by decide +kernel
theorem dX7_way_14 : decode cX7_way 14 = .ok (.bipush 64, 2) := by decide +kernel
theorem dX7_way_16 : decode cX7_way 16 = .ok (.if_icmp .ge 18, 3) := by decide +kernel
theorem dX7_way_19 : decode cX7_way 19 = .ok (.aload_n 0, 1) := by decide +kernel
theorem dX7_way_20 : decode cX7_way 20 = .ok (.getfield 21, 3) := by decide +kernel
theorem dX7_way_23 : decode cX7_way 23 = .ok (.getfield 71, 3) := by decide +kernel
theorem dX7_way_26 : decode cX7_way 26 = .ok (.iload_n 1, 1) := by decide +kernel
theorem dX7_way_27 : decode cX7_way 27 = .ok (.iaload, 1) := by decide +kernel
theorem dX7_way_28 : decode cX7_way 28 = .ok (.invokestatic 244, 3) := by decide +kernel
theorem dX7_way_31 : decode cX7_way 31 = .ok (.ifCond .eq 6, 3) := by decide +kernel
theorem dX7_way_34 : decode cX7_way 34 = .ok (.bipush (-4), 2) := by decide +kernel
theorem dX7_way_36 : decode cX7_way 36 = .ok (.ireturn, 1) := by decide +kernel
theorem dX7_way_37 : decode cX7_way 37 = .ok (.aload_n 0, 1) := by decide +kernel
theorem dX7_way_38 : decode cX7_way 38 = .ok (.getfield 54, 3) := by decide +kernel
theorem dX7_way_41 : decode cX7_way 41 = .ok (.aload_n 0, 1) := by decide +kernel
theorem dX7_way_42 : decode cX7_way 42 = .ok (.getfield 21, 3) := by decide +kernel
theorem dX7_way_45 : decode cX7_way 45 = .ok (.aload_n 0, 1) := by decide +kernel
theorem dX7_way_46 : decode cX7_way 46 = .ok (.getfield 27, 3) := by decide +kernel
theorem dX7_way_49 : decode cX7_way 49 = .ok (.invokevirtual 231, 3) := by decide +kernel
theorem dX7_way_52 : decode cX7_way 52 = .ok (.aload_n 0, 1) := by decide +kernel
theorem dX7_way_53 : decode cX7_way 53 = .ok (.getfield 54, 3) := by decide +kernel
theorem dX7_way_56 : decode cX7_way 56 = .ok (.iload_n 1, 1) := by decide +kernel
theorem dX7_way_57 : decode cX7_way 57 = .ok (.invokevirtual 235, 3) := by decide +kernel
theorem dX7_way_60 : decode cX7_way 60 = .ok (.aload_n 0, 1) := by decide +kernel
theorem dX7_way_61 : decode cX7_way 61 = .ok (.getfield 54, 3) := by decide +kernel
theorem dX7_way_64 : decode cX7_way 64 = .ok (.aload_n 0, 1) := by decide +kernel
theorem dX7_way_65 : decode cX7_way 65 = .ok (.getfield 21, 3) := by decide +kernel
theorem dX7_way_68 : decode cX7_way 68 = .ok (.getfield 120, 3) := by decide +kernel
theorem dX7_way_71 : decode cX7_way 71 = .ok (.iload_n 1, 1) := by decide +kernel
theorem dX7_way_72 : decode cX7_way 72 = .ok (.iload_n 2, 1) := by decide +kernel
theorem dX7_way_73 : decode cX7_way 73 = .ok (.invokevirtual 247, 3) := by decide +kernel
theorem dX7_way_76 : decode cX7_way 76 = .ok (.ireturn, 1) := by decide +kernel
set_option maxRecDepth 20000 in
theorem ggX7_ifPut_X0_isCell : GoodIn wsX7_ifPut wsX0_isCell := goodIn_r _ [8] (by decide +kernel) (by decide +kernel)
set_option maxRecDepth 20000 in
theorem gX7_ifPut_X0_isCell : GoodIn wsX7_ifPut (va_wsS RX7 58 yX0_isCell wsX0_isCell) := goodIn_app (goodIn_of _ (by decide +kernel)) ggX7_ifPut_X0_isCell
set_option maxRecDepth 20000 in
theorem ggX7_ifPut_X0_isKind : GoodIn wsX7_ifPut wsX0_isKind := goodIn_r _ [11] (by decide +kernel) (by decide +kernel)
set_option maxRecDepth 20000 in
theorem gX7_ifPut_X0_isKind : GoodIn wsX7_ifPut (va_wsS RX7 64 yX0_isKind wsX0_isKind) := goodIn_app (goodIn_of _ (by decide +kernel)) ggX7_ifPut_X0_isKind
set_option maxRecDepth 20000 in
theorem ggX7_ifPut_X7_isWithin : GoodIn wsX7_ifPut wsX7_isWithin := goodIn_r _ [15] (by decide +kernel) (by decide +kernel)
set_option maxRecDepth 20000 in
theorem gX7_ifPut_X7_isWithin : GoodIn wsX7_ifPut (va_wsS RX7 86 yX7_isWithin wsX7_isWithin) := goodIn_app (goodIn_of _ (by decide +kernel)) ggX7_ifPut_X7_isWithin
set_option maxRecDepth 20000 in
theorem ggX7_ifPut_X5_wouldTrapWalker : GoodIn wsX7_ifPut wsX5_wouldTrapWalker := goodIn_r _ [20, 21, 22, 23, 7, 24, 166, 167, 168, 169, 170, 171, 172, 173, 174, 175] (by decide +kernel) (by decide +kernel)
set_option maxRecDepth 20000 in
theorem gX7_ifPut_X5_wouldTrapWalker : GoodIn wsX7_ifPut (wsV RX7 67 RX5 yX5_wouldTrapWalker wsX5_wouldTrapWalker) := goodIn_app (goodIn_of _ (by decide +kernel)) ggX7_ifPut_X5_wouldTrapWalker
set_option maxRecDepth 20000 in
theorem ggX7_ifPut_X5_copyFrom : GoodIn wsX7_ifPut wsX5_copyFrom := goodIn_r _ [28, 29, 30, 31, 32, 33, 34, 35, 36, 37, 21, 38, 39, 40, 41, 166, 167, 168, 169, 170, 171, 172, 173, 174, 175] (by decide +kernel) (by decide +kernel)
set_option maxRecDepth 20000 in
theorem gX7_ifPut_X5_copyFrom : GoodIn wsX7_ifPut (wsV RX7 251 RX5 yX5_copyFrom wsX5_copyFrom) := goodIn_app (goodIn_of _ (by decide +kernel)) ggX7_ifPut_X5_copyFrom
set_option maxRecDepth 20000 in
theorem ggX7_ifPut_X5_changeKind : GoodIn wsX7_ifPut wsX5_changeKind := goodIn_r _ [45, 29, 46, 47, 7, 48, 49, 50, 51, 19, 52, 37, 34, 53, 54, 55, 56, 35, 36, 57, 58, 59, 60, 166, 167, 168, 169, 170, 171, 172, 173, 174, 175] (by decide +kernel) (by decide +kernel)
set_option maxRecDepth 20000 in
theorem gX7_ifPut_X5_changeKind : GoodIn wsX7_ifPut (wsV RX7 79 RX5 yX5_changeKind wsX5_changeKind) := goodIn_app (goodIn_of _ (by decide +kernel)) ggX7_ifPut_X5_changeKind
set_option maxRecDepth 20000 in
theorem ggX7_ifPut_X2_litCells : GoodIn wsX7_ifPut wsX2_litCells := goodIn_r _ [65, 66, 67, 68, 69, 70, 64, 71, 72, 73, 74, 75, 76, 77, 78, 79, 80, 81, 82, 83, 84, 85, 86, 7, 87, 88, 89, 90, 91, 92, 93, 94, 95, 96, 97, 98, 99, 100, 101, 102, 103, 104, 105, 106, 107, 108, 109, 110, 111, 112, 113, 176, 177, 166, 167, 168, 169, 170, 171, 172, 173, 174, 175, 178, 179, 180, 181, 182, 183, 184] (by decide +kernel) (by decide +kernel)
set_option maxRecDepth 20000 in
theorem gX7_ifPut_X2_litCells : GoodIn wsX7_ifPut (wsV RX7 210 RX2 yX2_litCells wsX2_litCells) := goodIn_app (goodIn_of _ (by decide +kernel)) ggX7_ifPut_X2_litCells
set_option maxRecDepth 20000 in
theorem ggX7_ifPut_X2_seenCells : GoodIn wsX7_ifPut wsX2_seenCells := goodIn_r _ [117, 66, 67, 80, 81, 118, 68, 69, 70, 64, 71, 72, 73, 74, 75, 76, 77, 78, 79, 82, 83, 84, 85, 86, 7, 87, 88, 89, 90, 91, 92, 93, 94, 95, 96, 97, 98, 99, 100, 101, 102, 103, 104, 105, 106, 107, 108, 109, 110, 111, 112, 113, 119, 120, 121, 122, 123, 124, 125, 126, 127, 128, 129, 130, 131, 132, 133, 134, 176, 177, 166, 167, 168, 169, 170, 171, 172, 173, 174, 175, 178, 179, 180, 181, 182, 183, 184] (by decide +kernel) (by decide +kernel)
set_option maxRecDepth 20000 in
theorem gX7_ifPut_X2_seenCells : GoodIn wsX7_ifPut (wsV RX7 13 RX2 yX2_seenCells wsX2_seenCells) := goodIn_app (goodIn_of _ (by decide +kernel)) ggX7_ifPut_X2_seenCells
set_option maxRecDepth 20000 in
theorem ggX7_ifPut_J13_bitCount_95d88 : GoodIn wsX7_ifPut wsJ13_bitCount_95d88 := goodIn_r _ [138, 139, 140, 141] (by decide +kernel) (by decide +kernel)
set_option maxRecDepth 20000 in
theorem gX7_ifPut_J13_bitCount_95d88 : GoodIn wsX7_ifPut (va_wsS RX7 130 yJ13_bitCount_95d88 wsJ13_bitCount_95d88) := goodIn_app (goodIn_of _ (by decide +kernel)) ggX7_ifPut_J13_bitCount_95d88
set_option maxRecDepth 20000 in
theorem ggX7_ifPut_X6_reachedCells : GoodIn wsX7_ifPut wsX6_reachedCells := goodIn_r _ [146, 147, 148, 149, 150, 151, 19, 152, 29, 153, 154, 7, 155, 130, 86, 87, 134, 89, 90, 22, 23, 24, 156, 14, 157, 166, 167, 168, 169, 170, 171, 172, 173, 174, 175, 185, 186, 187, 188] (by decide +kernel) (by decide +kernel)
set_option maxRecDepth 20000 in
theorem gX7_ifPut_X6_reachedCells : GoodIn wsX7_ifPut (wsV RX7 213 RX6 yX6_reachedCells wsX6_reachedCells) := goodIn_app (goodIn_of _ (by decide +kernel)) ggX7_ifPut_X6_reachedCells
theorem dX7_ifPut_0 : decode cX7_ifPut 0 = .ok (.iload_n 1, 1) := by decide +kernel
theorem dX7_ifPut_1 : decode cX7_ifPut 1 = .ok (.invokestatic 58, 3) := by decide +kernel
theorem dX7_ifPut_4 : decode cX7_ifPut 4 = .ok (.ifCond .eq 19, 3) := by decide +kernel
theorem dX7_ifPut_7 : decode cX7_ifPut 7 = .ok (.iload_n 2, 1) := by decide +kernel
theorem dX7_ifPut_8 : decode cX7_ifPut 8 = .ok (.invokestatic 64, 3) := by decide +kernel
theorem dX7_ifPut_11 : decode cX7_ifPut 11 = .ok (.ifCond .eq 12, 3) := by decide +kernel
theorem dX7_ifPut_14 : decode cX7_ifPut 14 = .ok (.iload_n 3, 1) := by decide +kernel
theorem dX7_ifPut_15 : decode cX7_ifPut 15 = .ok (.iconst 0, 1) := by decide +kernel
theorem dX7_ifPut_16 : decode cX7_ifPut 16 = .ok (.iconst 2, 1) := by decide +kernel
theorem dX7_ifPut_17 : decode cX7_ifPut 17 = .ok (.invokestatic 86, 3) := by decide +kernel
theorem dX7_ifPut_20 : decode cX7_ifPut 20 = .ok (.ifCond .ne 5, 3) := by decide +kernel
theorem dX7_ifPut_23 : decode cX7_ifPut 23 = .ok (.iconst (-1), 1) := by decide +kernel
theorem dX7_ifPut_24 : decode cX7_ifPut 24 = .ok (.ireturn, 1) := by decide +kernel
theorem dX7_ifPut_25 : decode cX7_ifPut 25 = .ok (.aload_n 0, 1) := by decide +kernel
theorem dX7_ifPut_26 : decode cX7_ifPut 26 = .ok (.getfield 21, 3) := by decide +kernel
theorem dX7_ifPut_29 : decode cX7_ifPut 29 = .ok (.iload_n 1, 1) := by decide +kernel
theorem dX7_ifPut_30 : decode cX7_ifPut 30 = .ok (.iload_n 2, 1) := by decide +kernel
theorem dX7_ifPut_31 : decode cX7_ifPut 31 = .ok (.invokevirtual 67, 3) := by decide +kernel
theorem dX7_ifPut_34 : decode cX7_ifPut 34 = .ok (.ifCond .eq 6, 3) := by decide +kernel
theorem dX7_ifPut_37 : decode cX7_ifPut 37 = .ok (.bipush (-2), 2) := by decide +kernel
theorem dX7_ifPut_39 : decode cX7_ifPut 39 = .ok (.ireturn, 1) := by decide +kernel
theorem dX7_ifPut_40 : decode cX7_ifPut 40 = .ok (.aload_n 0, 1) := by decide +kernel
theorem dX7_ifPut_41 : decode cX7_ifPut 41 = .ok (.getfield 31, 3) := by decide +kernel
theorem dX7_ifPut_44 : decode cX7_ifPut 44 = .ok (.aload_n 0, 1) := by decide +kernel
theorem dX7_ifPut_45 : decode cX7_ifPut 45 = .ok (.getfield 21, 3) := by decide +kernel
theorem dX7_ifPut_48 : decode cX7_ifPut 48 = .ok (.invokevirtual 251, 3) := by decide +kernel
theorem dX7_ifPut_51 : decode cX7_ifPut 51 = .ok (.aload_n 0, 1) := by decide +kernel
theorem dX7_ifPut_52 : decode cX7_ifPut 52 = .ok (.getfield 31, 3) := by decide +kernel
theorem dX7_ifPut_55 : decode cX7_ifPut 55 = .ok (.iload_n 1, 1) := by decide +kernel
theorem dX7_ifPut_56 : decode cX7_ifPut 56 = .ok (.iload_n 2, 1) := by decide +kernel
theorem dX7_ifPut_57 : decode cX7_ifPut 57 = .ok (.invokevirtual 79, 3) := by decide +kernel
theorem dX7_ifPut_60 : decode cX7_ifPut 60 = .ok (.iload_n 3, 1) := by decide +kernel
theorem dX7_ifPut_61 : decode cX7_ifPut 61 = .ok (.lookupswitch 55 #[(0, 27), (1, 40)], 27) := by decide +kernel
theorem dX7_ifPut_88 : decode cX7_ifPut 88 = .ok (.aload_n 0, 1) := by decide +kernel
theorem dX7_ifPut_89 : decode cX7_ifPut 89 = .ok (.getfield 27, 3) := by decide +kernel
theorem dX7_ifPut_92 : decode cX7_ifPut 92 = .ok (.aload_n 0, 1) := by decide +kernel
theorem dX7_ifPut_93 : decode cX7_ifPut 93 = .ok (.getfield 31, 3) := by decide +kernel
theorem dX7_ifPut_96 : decode cX7_ifPut 96 = .ok (.iconst 0, 1) := by decide +kernel
theorem dX7_ifPut_97 : decode cX7_ifPut 97 = .ok (.invokevirtual 210, 3) := by decide +kernel
theorem dX7_ifPut_100 : decode cX7_ifPut 100 = .ok (.ireturn, 1) := by decide +kernel
theorem dX7_ifPut_101 : decode cX7_ifPut 101 = .ok (.aload_n 0, 1) := by decide +kernel
theorem dX7_ifPut_102 : decode cX7_ifPut 102 = .ok (.getfield 27, 3) := by decide +kernel
theorem dX7_ifPut_105 : decode cX7_ifPut 105 = .ok (.aload_n 0, 1) := by decide +kernel
theorem dX7_ifPut_106 : decode cX7_ifPut 106 = .ok (.getfield 31, 3) := by decide +kernel
theorem dX7_ifPut_109 : decode cX7_ifPut 109 = .ok (.invokevirtual 13, 3) := by decide +kernel
theorem dX7_ifPut_112 : decode cX7_ifPut 112 = .ok (.invokestatic 130, 3) := by decide +kernel
theorem dX7_ifPut_115 : decode cX7_ifPut 115 = .ok (.ireturn, 1) := by decide +kernel
theorem dX7_ifPut_116 : decode cX7_ifPut 116 = .ok (.aload_n 0, 1) := by decide +kernel
theorem dX7_ifPut_117 : decode cX7_ifPut 117 = .ok (.getfield 54, 3) := by decide +kernel
theorem dX7_ifPut_120 : decode cX7_ifPut 120 = .ok (.aload_n 0, 1) := by decide +kernel
theorem dX7_ifPut_121 : decode cX7_ifPut 121 = .ok (.getfield 31, 3) := by decide +kernel
theorem dX7_ifPut_124 : decode cX7_ifPut 124 = .ok (.invokevirtual 213, 3) := by decide +kernel
theorem dX7_ifPut_127 : decode cX7_ifPut 127 = .ok (.ireturn, 1) := by decide +kernel
set_option maxRecDepth 20000 in
theorem ggX7_bestLamp_X7_isWithin : GoodIn wsX7_bestLamp wsX7_isWithin := goodIn_r _ [6] (by decide +kernel) (by decide +kernel)
set_option maxRecDepth 20000 in
theorem gX7_bestLamp_X7_isWithin : GoodIn wsX7_bestLamp (va_wsS RX7 86 yX7_isWithin wsX7_isWithin) := goodIn_app (goodIn_of _ (by decide +kernel)) ggX7_bestLamp_X7_isWithin
set_option maxRecDepth 20000 in
theorem ggX7_bestLamp_X2_bestCell : GoodIn wsX7_bestLamp wsX2_bestCell := goodIn_r _ [11, 12, 13, 14, 10, 15, 16, 17, 18, 19, 20, 21, 22, 23, 24, 25, 26, 27, 28, 29, 30, 31, 32, 33, 34, 35, 36, 37, 38, 39, 40, 41, 42, 43, 44, 45, 46, 47, 48, 49, 50, 51, 52, 53, 54, 55, 56, 57, 58, 59, 60, 61, 62, 63, 64, 65, 66, 67, 68, 69, 70, 71, 72, 73, 74, 75, 76, 77, 78, 79, 88, 89, 90, 91, 92, 93, 94, 95, 96, 97, 98, 99, 100, 101, 102, 103, 104, 105, 106] (by decide +kernel) (by decide +kernel)
set_option maxRecDepth 20000 in
theorem gX7_bestLamp_X2_bestCell : GoodIn wsX7_bestLamp (wsV RX7 254 RX2 yX2_bestCell wsX2_bestCell) := goodIn_app (goodIn_of _ (by decide +kernel)) ggX7_bestLamp_X2_bestCell
theorem dX7_bestLamp_0 : decode cX7_bestLamp 0 = .ok (.iload_n 1, 1) := by decide +kernel
theorem dX7_bestLamp_1 : decode cX7_bestLamp 1 = .ok (.iconst 1, 1) := by decide +kernel
theorem dX7_bestLamp_2 : decode cX7_bestLamp 2 = .ok (.bipush 9, 2) := by decide +kernel
theorem dX7_bestLamp_4 : decode cX7_bestLamp 4 = .ok (.invokestatic 86, 3) := by decide +kernel
theorem dX7_bestLamp_7 : decode cX7_bestLamp 7 = .ok (.ifCond .eq 18, 3) := by decide +kernel
theorem dX7_bestLamp_10 : decode cX7_bestLamp 10 = .ok (.aload_n 0, 1) := by decide +kernel
theorem dX7_bestLamp_11 : decode cX7_bestLamp 11 = .ok (.getfield 27, 3) := by decide +kernel
theorem dX7_bestLamp_14 : decode cX7_bestLamp 14 = .ok (.aload_n 0, 1) := by decide +kernel
theorem dX7_bestLamp_15 : decode cX7_bestLamp 15 = .ok (.getfield 21, 3) := by decide +kernel
theorem dX7_bestLamp_18 : decode cX7_bestLamp 18 = .ok (.iload_n 1, 1) := by decide +kernel
theorem dX7_bestLamp_19 : decode cX7_bestLamp 19 = .ok (.invokevirtual 254, 3) := by decide +kernel
theorem dX7_bestLamp_22 : decode cX7_bestLamp 22 = .ok (.goto 4, 3) := by decide +kernel
theorem dX7_bestLamp_25 : decode cX7_bestLamp 25 = .ok (.iconst (-1), 1) := by decide +kernel
theorem dX7_bestLamp_26 : decode cX7_bestLamp 26 = .ok (.ireturn, 1) := by decide +kernel
set_option maxRecDepth 20000 in
theorem ggX7_darkIn_X2_litCells : GoodIn wsX7_darkIn wsX2_litCells := goodIn_r _ [7, 8, 9, 10, 11, 12, 6, 13, 14, 15, 16, 17, 18, 19, 20, 21, 22, 23, 24, 25, 26, 27, 28, 29, 30, 31, 32, 33, 34, 35, 36, 37, 38, 39, 40, 41, 42, 43, 44, 45, 46, 47, 48, 49, 50, 51, 52, 53, 54, 55, 56, 72, 73, 74, 75, 76, 77, 78, 79, 80, 81, 82, 83, 84, 85, 86, 87, 88, 89, 90] (by decide +kernel) (by decide +kernel)
set_option maxRecDepth 20000 in
theorem gX7_darkIn_X2_litCells : GoodIn wsX7_darkIn (wsV RX7 210 RX2 yX2_litCells wsX2_litCells) := goodIn_app (goodIn_of _ (by decide +kernel)) ggX7_darkIn_X2_litCells
set_option maxRecDepth 20000 in
theorem ggX7_darkIn_X5_leastFuelAbove : GoodIn wsX7_darkIn wsX5_leastFuelAbove := goodIn_r _ [61, 62, 63, 74, 75, 76, 77, 78, 79, 80, 81, 82, 83] (by decide +kernel) (by decide +kernel)
set_option maxRecDepth 20000 in
theorem gX7_darkIn_X5_leastFuelAbove : GoodIn wsX7_darkIn (wsV RX7 257 RX5 yX5_leastFuelAbove wsX5_leastFuelAbove) := goodIn_app (goodIn_of _ (by decide +kernel)) ggX7_darkIn_X5_leastFuelAbove
theorem dX7_darkIn_0 : decode cX7_darkIn 0 = .ok (.iconst 0, 1) := by decide +kernel
theorem dX7_darkIn_1 : decode cX7_darkIn 1 = .ok (.istore_n 1, 1) := by decide +kernel
theorem dX7_darkIn_2 : decode cX7_darkIn 2 = .ok (.iconst 0, 1) := by decide +kernel
theorem dX7_darkIn_3 : decode cX7_darkIn 3 = .ok (.istore_n 2, 1) := by decide +kernel
theorem dX7_darkIn_4 : decode cX7_darkIn 4 = .ok (.iload_n 2, 1) := by decide +kernel
theorem dX7_darkIn_5 : decode cX7_darkIn 5 = .ok (.bipush 6, 2) := by decide +kernel
theorem dX7_darkIn_7 : decode cX7_darkIn 7 = .ok (.if_icmp .ge 33, 3) := by decide +kernel
theorem dX7_darkIn_10 : decode cX7_darkIn 10 = .ok (.aload_n 0, 1) := by decide +kernel
theorem dX7_darkIn_11 : decode cX7_darkIn 11 = .ok (.getfield 27, 3) := by decide +kernel
theorem dX7_darkIn_14 : decode cX7_darkIn 14 = .ok (.aload_n 0, 1) := by decide +kernel
theorem dX7_darkIn_15 : decode cX7_darkIn 15 = .ok (.getfield 21, 3) := by decide +kernel
theorem dX7_darkIn_18 : decode cX7_darkIn 18 = .ok (.iload_n 1, 1) := by decide +kernel
theorem dX7_darkIn_19 : decode cX7_darkIn 19 = .ok (.invokevirtual 210, 3) := by decide +kernel
theorem dX7_darkIn_22 : decode cX7_darkIn 22 = .ok (.ifCond .le 18, 3) := by decide +kernel
theorem dX7_darkIn_25 : decode cX7_darkIn 25 = .ok (.aload_n 0, 1) := by decide +kernel
theorem dX7_darkIn_26 : decode cX7_darkIn 26 = .ok (.getfield 21, 3) := by decide +kernel
theorem dX7_darkIn_29 : decode cX7_darkIn 29 = .ok (.iload_n 1, 1) := by decide +kernel
theorem dX7_darkIn_30 : decode cX7_darkIn 30 = .ok (.invokevirtual 257, 3) := by decide +kernel
theorem dX7_darkIn_33 : decode cX7_darkIn 33 = .ok (.istore_n 1, 1) := by decide +kernel
theorem dX7_darkIn_34 : decode cX7_darkIn 34 = .ok (.iinc 2 1, 3) := by decide +kernel
theorem dX7_darkIn_37 : decode cX7_darkIn 37 = .ok (.goto (-33), 3) := by decide +kernel
theorem dX7_darkIn_40 : decode cX7_darkIn 40 = .ok (.iload_n 1, 1) := by decide +kernel
theorem dX7_darkIn_41 : decode cX7_darkIn 41 = .ok (.ireturn, 1) := by decide +kernel
set_option maxRecDepth 20000 in
theorem ggX7_undo_X1_takeBack : GoodIn wsX7_undo wsX1_takeBack := goodIn_r _ [8, 9, 10, 11, 12, 13, 14, 15, 16, 17, 18, 19, 20, 21, 22, 23, 24, 25, 26, 27, 28, 29, 38, 39, 40, 41, 42, 43, 44, 45, 46, 47, 48, 49] (by decide +kernel) (by decide +kernel)
set_option maxRecDepth 20000 in
theorem gX7_undo_X1_takeBack : GoodIn wsX7_undo (wsV RX7 260 RX1 yX1_takeBack wsX1_takeBack) := goodIn_app (goodIn_of _ (by decide +kernel)) ggX7_undo_X1_takeBack
theorem dX7_undo_0 : decode cX7_undo 0 = .ok (.aload_n 0, 1) := by decide +kernel
theorem dX7_undo_1 : decode cX7_undo 1 = .ok (.getfield 40, 3) := by decide +kernel
theorem dX7_undo_4 : decode cX7_undo 4 = .ok (.getfield 226, 3) := by decide +kernel
theorem dX7_undo_7 : decode cX7_undo 7 = .ok (.ifCond .ne 6, 3) := by decide +kernel
theorem dX7_undo_10 : decode cX7_undo 10 = .ok (.bipush (-2), 2) := by decide +kernel
theorem dX7_undo_12 : decode cX7_undo 12 = .ok (.ireturn, 1) := by decide +kernel
theorem dX7_undo_13 : decode cX7_undo 13 = .ok (.aload_n 0, 1) := by decide +kernel
theorem dX7_undo_14 : decode cX7_undo 14 = .ok (.getfield 40, 3) := by decide +kernel
theorem dX7_undo_17 : decode cX7_undo 17 = .ok (.aload_n 0, 1) := by decide +kernel
theorem dX7_undo_18 : decode cX7_undo 18 = .ok (.getfield 21, 3) := by decide +kernel
theorem dX7_undo_21 : decode cX7_undo 21 = .ok (.invokevirtual 260, 3) := by decide +kernel
theorem dX7_undo_24 : decode cX7_undo 24 = .ok (.aload_n 0, 1) := by decide +kernel
theorem dX7_undo_25 : decode cX7_undo 25 = .ok (.getfield 40, 3) := by decide +kernel
theorem dX7_undo_28 : decode cX7_undo 28 = .ok (.getfield 226, 3) := by decide +kernel
theorem dX7_undo_31 : decode cX7_undo 31 = .ok (.ireturn, 1) := by decide +kernel
set_option maxRecDepth 20000 in
theorem ggX7_save_X5_copyFrom : GoodIn wsX7_save wsX5_copyFrom := goodIn_r _ [9, 10, 11, 12, 13, 14, 15, 16, 17, 18, 19, 20, 21, 22, 23, 32, 33, 34, 35, 36, 37, 38, 39, 40, 41] (by decide +kernel) (by decide +kernel)
set_option maxRecDepth 20000 in
theorem gX7_save_X5_copyFrom : GoodIn wsX7_save (wsV RX7 251 RX5 yX5_copyFrom wsX5_copyFrom) := goodIn_app (goodIn_of _ (by decide +kernel)) ggX7_save_X5_copyFrom
theorem dX7_save_0 : decode cX7_save 0 = .ok (.aload_n 0, 1) := by decide +kernel
theorem dX7_save_1 : decode cX7_save 1 = .ok (.getfield 34, 3) := by decide +kernel
theorem dX7_save_4 : decode cX7_save 4 = .ok (.aload_n 0, 1) := by decide +kernel
theorem dX7_save_5 : decode cX7_save 5 = .ok (.getfield 21, 3) := by decide +kernel
theorem dX7_save_8 : decode cX7_save 8 = .ok (.invokevirtual 251, 3) := by decide +kernel
theorem dX7_save_11 : decode cX7_save 11 = .ok (.aload_n 0, 1) := by decide +kernel
theorem dX7_save_12 : decode cX7_save 12 = .ok (.iconst 1, 1) := by decide +kernel
theorem dX7_save_13 : decode cX7_save 13 = .ok (.putfield 263, 3) := by decide +kernel
theorem dX7_save_16 : decode cX7_save 16 = .ok (.aload_n 0, 1) := by decide +kernel
theorem dX7_save_17 : decode cX7_save 17 = .ok (.getfield 21, 3) := by decide +kernel
theorem dX7_save_20 : decode cX7_save 20 = .ok (.getfield 120, 3) := by decide +kernel
theorem dX7_save_23 : decode cX7_save 23 = .ok (.ireturn, 1) := by decide +kernel
set_option maxRecDepth 20000 in
theorem ggX7_restore_X1_record : GoodIn wsX7_restore wsX1_record := goodIn_r _ [10, 11, 12, 13, 14, 15, 9, 16, 17, 18, 19, 20, 21, 22, 23, 24, 25, 26, 27, 28, 29, 30, 31, 32, 33, 34, 35, 133, 134, 123, 124, 125, 126, 127, 128, 129, 130, 131, 132] (by decide +kernel) (by decide +kernel)
set_option maxRecDepth 20000 in
theorem gX7_restore_X1_record : GoodIn wsX7_restore (wsV RX7 75 RX1 yX1_record wsX1_record) := goodIn_app (goodIn_of _ (by decide +kernel)) ggX7_restore_X1_record
set_option maxRecDepth 20000 in
theorem ggX7_restore_X5_copyFrom : GoodIn wsX7_restore wsX5_copyFrom := goodIn_r _ [21, 22, 23, 24, 25, 26, 27, 28, 29, 30, 31, 32, 33, 34, 35, 123, 124, 125, 126, 127, 128, 129, 130, 131, 132] (by decide +kernel) (by decide +kernel)
set_option maxRecDepth 20000 in
theorem gX7_restore_X5_copyFrom : GoodIn wsX7_restore (wsV RX7 251 RX5 yX5_copyFrom wsX5_copyFrom) := goodIn_app (goodIn_of _ (by decide +kernel)) ggX7_restore_X5_copyFrom
set_option maxRecDepth 20000 in
theorem ggX7_restore_X7_rememberSeen : GoodIn wsX7_restore wsX7_rememberSeen := goodIn_r _ [41, 3, 42, 43, 44, 45, 46, 47, 48, 49, 50, 51, 52, 53, 54, 55, 56, 57, 58, 59, 60, 61, 62, 63, 64, 65, 66, 67, 68, 69, 70, 71, 72, 73, 74, 75, 76, 77, 78, 79, 80, 81, 82, 83, 84, 85, 86, 87, 88, 89, 90, 91, 92, 93, 94, 95, 96, 97, 98, 99, 100, 101, 102, 103, 104, 105, 106, 107, 108, 109, 110, 111, 112, 113, 114, 115, 116, 117, 118, 119, 120, 121, 122, 123, 124, 125, 126, 127, 128, 129, 130, 131, 132, 135, 136, 137, 138, 139, 140, 141, 142, 143] (by decide +kernel) (by decide +kernel)
set_option maxRecDepth 20000 in
theorem gX7_restore_X7_rememberSeen : GoodIn wsX7_restore (wsV RX7 83 RX7 yX7_rememberSeen wsX7_rememberSeen) := goodIn_app (goodIn_of _ (by decide +kernel)) ggX7_restore_X7_rememberSeen
theorem dX7_restore_0 : decode cX7_restore 0 = .ok (.aload_n 0, 1) := by decide +kernel
theorem dX7_restore_1 : decode cX7_restore 1 = .ok (.getfield 263, 3) := by decide +kernel
theorem dX7_restore_4 : decode cX7_restore 4 = .ok (.ifCond .ne 6, 3) := by decide +kernel
theorem dX7_restore_7 : decode cX7_restore 7 = .ok (.bipush (-2), 2) := by decide +kernel
theorem dX7_restore_9 : decode cX7_restore 9 = .ok (.ireturn, 1) := by decide +kernel
theorem dX7_restore_10 : decode cX7_restore 10 = .ok (.aload_n 0, 1) := by decide +kernel
theorem dX7_restore_11 : decode cX7_restore 11 = .ok (.getfield 40, 3) := by decide +kernel
theorem dX7_restore_14 : decode cX7_restore 14 = .ok (.aload_n 0, 1) := by decide +kernel
theorem dX7_restore_15 : decode cX7_restore 15 = .ok (.getfield 21, 3) := by decide +kernel
theorem dX7_restore_18 : decode cX7_restore 18 = .ok (.invokevirtual 75, 3) := by decide +kernel
theorem dX7_restore_21 : decode cX7_restore 21 = .ok (.aload_n 0, 1) := by decide +kernel
theorem dX7_restore_22 : decode cX7_restore 22 = .ok (.getfield 21, 3) := by decide +kernel
theorem dX7_restore_25 : decode cX7_restore 25 = .ok (.aload_n 0, 1) := by decide +kernel
theorem dX7_restore_26 : decode cX7_restore 26 = .ok (.getfield 34, 3) := by decide +kernel
theorem dX7_restore_29 : decode cX7_restore 29 = .ok (.invokevirtual 251, 3) := by decide +kernel
theorem dX7_restore_32 : decode cX7_restore 32 = .ok (.aload_n 0, 1) := by decide +kernel
theorem dX7_restore_33 : decode cX7_restore 33 = .ok (.invokevirtual 83, 3) := by decide +kernel
theorem dX7_restore_36 : decode cX7_restore 36 = .ok (.aload_n 0, 1) := by decide +kernel
theorem dX7_restore_37 : decode cX7_restore 37 = .ok (.getfield 21, 3) := by decide +kernel
theorem dX7_restore_40 : decode cX7_restore 40 = .ok (.getfield 120, 3) := by decide +kernel
theorem dX7_restore_43 : decode cX7_restore 43 = .ok (.ireturn, 1) := by decide +kernel
set_option maxRecDepth 20000 in
theorem ggX7_rememberSeen_X2_seenCells : GoodIn wsX7_rememberSeen wsX2_seenCells := goodIn_r _ [8, 9, 10, 11, 12, 13, 14, 15, 16, 7, 17, 18, 19, 20, 21, 22, 23, 24, 25, 26, 27, 28, 29, 30, 31, 32, 33, 34, 35, 36, 37, 38, 39, 40, 41, 42, 43, 44, 45, 46, 47, 48, 49, 50, 51, 52, 53, 54, 55, 56, 57, 58, 59, 60, 61, 62, 63, 64, 65, 66, 67, 68, 69, 70, 71, 72, 73, 74, 93, 94, 83, 84, 85, 86, 87, 88, 89, 90, 91, 92, 95, 96, 97, 98, 99, 100, 101] (by decide +kernel) (by decide +kernel)
set_option maxRecDepth 20000 in
theorem gX7_rememberSeen_X2_seenCells : GoodIn wsX7_rememberSeen (wsV RX7 13 RX2 yX2_seenCells wsX2_seenCells) := goodIn_app (goodIn_of _ (by decide +kernel)) ggX7_rememberSeen_X2_seenCells
theorem dX7_rememberSeen_0 : decode cX7_rememberSeen 0 = .ok (.aload_n 0, 1) := by decide +kernel
theorem dX7_rememberSeen_1 : decode cX7_rememberSeen 1 = .ok (.getfield 21, 3) := by decide +kernel
theorem dX7_rememberSeen_4 : decode cX7_rememberSeen 4 = .ok (.dup, 1) := by decide +kernel
theorem dX7_rememberSeen_5 : decode cX7_rememberSeen 5 = .ok (.getfield 17, 3) := by decide +kernel
theorem dX7_rememberSeen_8 : decode cX7_rememberSeen 8 = .ok (.aload_n 0, 1) := by decide +kernel
theorem dX7_rememberSeen_9 : decode cX7_rememberSeen 9 = .ok (.getfield 27, 3) := by decide +kernel
theorem dX7_rememberSeen_12 : decode cX7_rememberSeen 12 = .ok (.aload_n 0, 1) := by decide +kernel
theorem dX7_rememberSeen_13 : decode cX7_rememberSeen 13 = .ok (.getfield 21, 3) := by decide +kernel
theorem dX7_rememberSeen_16 : decode cX7_rememberSeen 16 = .ok (.invokevirtual 13, 3) := by decide +kernel
theorem dX7_rememberSeen_19 : decode cX7_rememberSeen 19 = .ok (.lor, 1) := by decide +kernel
theorem dX7_rememberSeen_20 : decode cX7_rememberSeen 20 = .ok (.putfield 17, 3) := by decide +kernel
theorem dX7_rememberSeen_23 : decode cX7_rememberSeen 23 = .ok (.return_, 1) := by decide +kernel
theorem dX7_bitOf_0 : decode cX7_bitOf 0 = .ok (.lload_n 0, 1) := by decide +kernel
theorem dX7_bitOf_1 : decode cX7_bitOf 1 = .ok (.iload_n 2, 1) := by decide +kernel
theorem dX7_bitOf_2 : decode cX7_bitOf 2 = .ok (.lushr, 1) := by decide +kernel
theorem dX7_bitOf_3 : decode cX7_bitOf 3 = .ok (.lconst 1, 1) := by decide +kernel
theorem dX7_bitOf_4 : decode cX7_bitOf 4 = .ok (.land, 1) := by decide +kernel
theorem dX7_bitOf_5 : decode cX7_bitOf 5 = .ok (.l2i, 1) := by decide +kernel
theorem dX7_bitOf_6 : decode cX7_bitOf 6 = .ok (.ireturn, 1) := by decide +kernel
theorem dX7_isWithin_0 : decode cX7_isWithin 0 = .ok (.iload_n 0, 1) := by decide +kernel
theorem dX7_isWithin_1 : decode cX7_isWithin 1 = .ok (.iload_n 1, 1) := by decide +kernel
theorem dX7_isWithin_2 : decode cX7_isWithin 2 = .ok (.if_icmp .lt 12, 3) := by decide +kernel
theorem dX7_isWithin_5 : decode cX7_isWithin 5 = .ok (.iload_n 0, 1) := by decide +kernel
theorem dX7_isWithin_6 : decode cX7_isWithin 6 = .ok (.iload_n 2, 1) := by decide +kernel
theorem dX7_isWithin_7 : decode cX7_isWithin 7 = .ok (.if_icmp .gt 7, 3) := by decide +kernel
theorem dX7_isWithin_10 : decode cX7_isWithin 10 = .ok (.iconst 1, 1) := by decide +kernel
theorem dX7_isWithin_11 : decode cX7_isWithin 11 = .ok (.goto 4, 3) := by decide +kernel
theorem dX7_isWithin_14 : decode cX7_isWithin 14 = .ok (.iconst 0, 1) := by decide +kernel
theorem dX7_isWithin_15 : decode cX7_isWithin 15 = .ok (.ireturn, 1) := by decide +kernel
