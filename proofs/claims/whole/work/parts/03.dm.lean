set_option maxRecDepth 20000 in
theorem ggX8_init_X8_remember : GoodIn wsX8_init wsX8_remember := goodIn_r _ [17, 5, 18, 19, 20, 16, 21, 22, 23, 24, 25, 26, 27, 28, 29, 30, 31, 32, 33, 34, 35, 36, 37, 38, 39, 40, 41, 42, 43, 44, 45, 46, 47, 48, 49, 50, 51, 52, 53, 54, 55, 56, 57, 58, 59, 60, 61, 62, 63, 64, 65, 66, 67, 68, 69, 70, 71, 72, 73, 74, 75, 76, 77, 78, 79, 80, 81, 82, 83] (by decide +kernel) (by decide +kernel)
set_option maxRecDepth 20000 in
theorem gX8_init_X8_remember : GoodIn wsX8_init (wsV RX8 34 RX8 yX8_remember wsX8_remember) := goodIn_app (goodIn_of _ (by decide +kernel)) ggX8_init_X8_remember
theorem dX8_init_0 : decode cX8_init 0 = .ok (.aload_n 0, 1) := by decide +kernel
theorem dX8_init_1 : decode cX8_init 1 = .ok (.invokespecial 1, 3) := by decide +kernel
theorem dX8_init_4 : decode cX8_init 4 = .ok (.aload_n 0, 1) := by decide +kernel
theorem dX8_init_5 : decode cX8_init 5 = .ok (.sipush 151, 3) := by decide +kernel
theorem dX8_init_8 : decode cX8_init 8 = .ok (.newarray .int, 2) := by decide +kernel
theorem dX8_init_10 : decode cX8_init 10 = .ok (.putfield 7, 3) := by decide +kernel
theorem dX8_init_13 : decode cX8_init 13 = .ok (.aload_n 0, 1) := by decide +kernel
theorem dX8_init_14 : decode cX8_init 14 = .ok (.sipush 604, 3) := by decide +kernel
theorem dX8_init_17 : decode cX8_init 17 = .ok (.newarray .int, 2) := by decide +kernel
theorem dX8_init_19 : decode cX8_init 19 = .ok (.putfield 13, 3) := by decide +kernel
theorem dX8_init_22 : decode cX8_init 22 = .ok (.aload_n 0, 1) := by decide +kernel
theorem dX8_init_23 : decode cX8_init 23 = .ok (.sipush 151, 3) := by decide +kernel
theorem dX8_init_26 : decode cX8_init 26 = .ok (.newarray .int, 2) := by decide +kernel
theorem dX8_init_28 : decode cX8_init 28 = .ok (.putfield 16, 3) := by decide +kernel
theorem dX8_init_31 : decode cX8_init 31 = .ok (.aload_n 0, 1) := by decide +kernel
theorem dX8_init_32 : decode cX8_init 32 = .ok (.sipush 151, 3) := by decide +kernel
theorem dX8_init_35 : decode cX8_init 35 = .ok (.newarray .int, 2) := by decide +kernel
theorem dX8_init_37 : decode cX8_init 37 = .ok (.putfield 19, 3) := by decide +kernel
theorem dX8_init_40 : decode cX8_init 40 = .ok (.aload_n 0, 1) := by decide +kernel
theorem dX8_init_41 : decode cX8_init 41 = .ok (.bipush 64, 2) := by decide +kernel
theorem dX8_init_43 : decode cX8_init 43 = .ok (.newarray .int, 2) := by decide +kernel
theorem dX8_init_45 : decode cX8_init 45 = .ok (.putfield 22, 3) := by decide +kernel
theorem dX8_init_48 : decode cX8_init 48 = .ok (.aload_n 0, 1) := by decide +kernel
theorem dX8_init_49 : decode cX8_init 49 = .ok (.bipush 80, 2) := by decide +kernel
theorem dX8_init_51 : decode cX8_init 51 = .ok (.newarray .int, 2) := by decide +kernel
theorem dX8_init_53 : decode cX8_init 53 = .ok (.putfield 25, 3) := by decide +kernel
theorem dX8_init_56 : decode cX8_init 56 = .ok (.aload_n 0, 1) := by decide +kernel
theorem dX8_init_57 : decode cX8_init 57 = .ok (.bipush 64, 2) := by decide +kernel
theorem dX8_init_59 : decode cX8_init 59 = .ok (.newarray .int, 2) := by decide +kernel
theorem dX8_init_61 : decode cX8_init 61 = .ok (.putfield 28, 3) := by decide +kernel
theorem dX8_init_64 : decode cX8_init 64 = .ok (.aload_n 0, 1) := by decide +kernel
theorem dX8_init_65 : decode cX8_init 65 = .ok (.sipush 384, 3) := by decide +kernel
theorem dX8_init_68 : decode cX8_init 68 = .ok (.newarray .int, 2) := by decide +kernel
theorem dX8_init_70 : decode cX8_init 70 = .ok (.putfield 31, 3) := by decide +kernel
theorem dX8_init_73 : decode cX8_init 73 = .ok (.aload_n 0, 1) := by decide +kernel
theorem dX8_init_74 : decode cX8_init 74 = .ok (.getfield 7, 3) := by decide +kernel
theorem dX8_init_77 : decode cX8_init 77 = .ok (.sipush 149, 3) := by decide +kernel
theorem dX8_init_80 : decode cX8_init 80 = .ok (.iconst 3, 1) := by decide +kernel
theorem dX8_init_81 : decode cX8_init 81 = .ok (.iastore, 1) := by decide +kernel
theorem dX8_init_82 : decode cX8_init 82 = .ok (.aload_n 0, 1) := by decide +kernel
theorem dX8_init_83 : decode cX8_init 83 = .ok (.getfield 7, 3) := by decide +kernel
theorem dX8_init_86 : decode cX8_init 86 = .ok (.sipush 150, 3) := by decide +kernel
theorem dX8_init_89 : decode cX8_init 89 = .ok (.iconst 1, 1) := by decide +kernel
theorem dX8_init_90 : decode cX8_init 90 = .ok (.iastore, 1) := by decide +kernel
theorem dX8_init_91 : decode cX8_init 91 = .ok (.aload_n 0, 1) := by decide +kernel
theorem dX8_init_92 : decode cX8_init 92 = .ok (.invokevirtual 34, 3) := by decide +kernel
theorem dX8_init_95 : decode cX8_init 95 = .ok (.return_, 1) := by decide +kernel
theorem dX8_in_0 : decode cX8_in 0 = .ok (.iload_n 0, 1) := by decide +kernel
theorem dX8_in_1 : decode cX8_in 1 = .ok (.iload_n 1, 1) := by decide +kernel
theorem dX8_in_2 : decode cX8_in 2 = .ok (.if_icmp .lt 12, 3) := by decide +kernel
theorem dX8_in_5 : decode cX8_in 5 = .ok (.iload_n 0, 1) := by decide +kernel
theorem dX8_in_6 : decode cX8_in 6 = .ok (.iload_n 2, 1) := by decide +kernel
theorem dX8_in_7 : decode cX8_in 7 = .ok (.if_icmp .gt 7, 3) := by decide +kernel
theorem dX8_in_10 : decode cX8_in 10 = .ok (.iconst 1, 1) := by decide +kernel
theorem dX8_in_11 : decode cX8_in 11 = .ok (.goto 4, 3) := by decide +kernel
theorem dX8_in_14 : decode cX8_in 14 = .ok (.iconst 0, 1) := by decide +kernel
theorem dX8_in_15 : decode cX8_in 15 = .ok (.ireturn, 1) := by decide +kernel
set_option maxRecDepth 20000 in
theorem ggX8_isCell_X8_in : GoodIn wsX8_isCell wsX8_in := goodIn_r _ [4] (by decide +kernel) (by decide +kernel)
set_option maxRecDepth 20000 in
theorem gX8_isCell_X8_in : GoodIn wsX8_isCell (va_wsS RX8 37 yX8_in wsX8_in) := goodIn_app (goodIn_of _ (by decide +kernel)) ggX8_isCell_X8_in
theorem dX8_isCell_0 : decode cX8_isCell 0 = .ok (.iload_n 0, 1) := by decide +kernel
theorem dX8_isCell_1 : decode cX8_isCell 1 = .ok (.iconst 0, 1) := by decide +kernel
theorem dX8_isCell_2 : decode cX8_isCell 2 = .ok (.bipush 63, 2) := by decide +kernel
theorem dX8_isCell_4 : decode cX8_isCell 4 = .ok (.invokestatic 37, 3) := by decide +kernel
theorem dX8_isCell_7 : decode cX8_isCell 7 = .ok (.ireturn, 1) := by decide +kernel
set_option maxRecDepth 20000 in
theorem ggX8_isLamp_X8_in : GoodIn wsX8_isLamp wsX8_in := goodIn_r _ [5] (by decide +kernel) (by decide +kernel)
set_option maxRecDepth 20000 in
theorem gX8_isLamp_X8_in : GoodIn wsX8_isLamp (va_wsS RX8 37 yX8_in wsX8_in) := goodIn_app (goodIn_of _ (by decide +kernel)) ggX8_isLamp_X8_in
theorem dX8_isLamp_0 : decode cX8_isLamp 0 = .ok (.iload_n 1, 1) := by decide +kernel
theorem dX8_isLamp_1 : decode cX8_isLamp 1 = .ok (.iconst 0, 1) := by decide +kernel
theorem dX8_isLamp_2 : decode cX8_isLamp 2 = .ok (.aload_n 0, 1) := by decide +kernel
theorem dX8_isLamp_3 : decode cX8_isLamp 3 = .ok (.getfield 7, 3) := by decide +kernel
theorem dX8_isLamp_6 : decode cX8_isLamp 6 = .ok (.sipush 128, 3) := by decide +kernel
theorem dX8_isLamp_9 : decode cX8_isLamp 9 = .ok (.iaload, 1) := by decide +kernel
theorem dX8_isLamp_10 : decode cX8_isLamp 10 = .ok (.iconst 1, 1) := by decide +kernel
theorem dX8_isLamp_11 : decode cX8_isLamp 11 = .ok (.isub, 1) := by decide +kernel
theorem dX8_isLamp_12 : decode cX8_isLamp 12 = .ok (.invokestatic 37, 3) := by decide +kernel
theorem dX8_isLamp_15 : decode cX8_isLamp 15 = .ok (.ireturn, 1) := by decide +kernel
theorem dX8_isDark_0 : decode cX8_isDark 0 = .ok (.iload_n 0, 1) := by decide +kernel
theorem dX8_isDark_1 : decode cX8_isDark 1 = .ok (.iconst 1, 1) := by decide +kernel
theorem dX8_isDark_2 : decode cX8_isDark 2 = .ok (.if_icmp .eq 8, 3) := by decide +kernel
theorem dX8_isDark_5 : decode cX8_isDark 5 = .ok (.iload_n 0, 1) := by decide +kernel
theorem dX8_isDark_6 : decode cX8_isDark 6 = .ok (.iconst 3, 1) := by decide +kernel
theorem dX8_isDark_7 : decode cX8_isDark 7 = .ok (.if_icmp .ne 7, 3) := by decide +kernel
theorem dX8_isDark_10 : decode cX8_isDark 10 = .ok (.iconst 1, 1) := by decide +kernel
theorem dX8_isDark_11 : decode cX8_isDark 11 = .ok (.goto 4, 3) := by decide +kernel
theorem dX8_isDark_14 : decode cX8_isDark 14 = .ok (.iconst 0, 1) := by decide +kernel
theorem dX8_isDark_15 : decode cX8_isDark 15 = .ok (.ireturn, 1) := by decide +kernel
theorem dX8_isClosed_0 : decode cX8_isClosed 0 = .ok (.iload_n 0, 1) := by decide +kernel
theorem dX8_isClosed_1 : decode cX8_isClosed 1 = .ok (.iconst 1, 1) := by decide +kernel
theorem dX8_isClosed_2 : decode cX8_isClosed 2 = .ok (.if_icmp .eq 8, 3) := by decide +kernel
theorem dX8_isClosed_5 : decode cX8_isClosed 5 = .ok (.iload_n 0, 1) := by decide +kernel
theorem dX8_isClosed_6 : decode cX8_isClosed 6 = .ok (.iconst 2, 1) := by decide +kernel
theorem dX8_isClosed_7 : decode cX8_isClosed 7 = .ok (.if_icmp .ne 7, 3) := by decide +kernel
theorem dX8_isClosed_10 : decode cX8_isClosed 10 = .ok (.iconst 1, 1) := by decide +kernel
theorem dX8_isClosed_11 : decode cX8_isClosed 11 = .ok (.goto 4, 3) := by decide +kernel
theorem dX8_isClosed_14 : decode cX8_isClosed 14 = .ok (.iconst 0, 1) := by decide +kernel
theorem dX8_isClosed_15 : decode cX8_isClosed 15 = .ok (.ireturn, 1) := by decide +kernel
theorem dX8_size_0 : decode cX8_size 0 = .ok (.iload_n 0, 1) := by decide +kernel
theorem dX8_size_1 : decode cX8_size 1 = .ok (.ifCond .ge 8, 3) := by decide +kernel
theorem dX8_size_4 : decode cX8_size 4 = .ok (.iload_n 0, 1) := by decide +kernel
theorem dX8_size_5 : decode cX8_size 5 = .ok (.ineg, 1) := by decide +kernel
theorem dX8_size_6 : decode cX8_size 6 = .ok (.goto 4, 3) := by decide +kernel
theorem dX8_size_9 : decode cX8_size 9 = .ok (.iload_n 0, 1) := by decide +kernel
theorem dX8_size_10 : decode cX8_size 10 = .ok (.ireturn, 1) := by decide +kernel
theorem dX8_record_0 : decode cX8_record 0 = .ok (.aload_n 0, 1) := by decide +kernel
theorem dX8_record_1 : decode cX8_record 1 = .ok (.getfield 41, 3) := by decide +kernel
theorem dX8_record_4 : decode cX8_record 4 = .ok (.iconst 4, 1) := by decide +kernel
theorem dX8_record_5 : decode cX8_record 5 = .ok (.if_icmp .ne 44, 3) := by decide +kernel
theorem dX8_record_8 : decode cX8_record 8 = .ok (.iconst 0, 1) := by decide +kernel
theorem dX8_record_9 : decode cX8_record 9 = .ok (.istore_n 1, 1) := by decide +kernel
theorem dX8_record_10 : decode cX8_record 10 = .ok (.iload_n 1, 1) := by decide +kernel
theorem dX8_record_11 : decode cX8_record 11 = .ok (.sipush 453, 3) := by decide +kernel
theorem dX8_record_14 : decode cX8_record 14 = .ok (.if_icmp .ge 25, 3) := by decide +kernel
theorem dX8_record_17 : decode cX8_record 17 = .ok (.aload_n 0, 1) := by decide +kernel
theorem dX8_record_18 : decode cX8_record 18 = .ok (.getfield 13, 3) := by decide +kernel
theorem dX8_record_21 : decode cX8_record 21 = .ok (.iload_n 1, 1) := by decide +kernel
theorem dX8_record_22 : decode cX8_record 22 = .ok (.aload_n 0, 1) := by decide +kernel
theorem dX8_record_23 : decode cX8_record 23 = .ok (.getfield 13, 3) := by decide +kernel
theorem dX8_record_26 : decode cX8_record 26 = .ok (.iload_n 1, 1) := by decide +kernel
theorem dX8_record_27 : decode cX8_record 27 = .ok (.sipush 151, 3) := by decide +kernel
theorem dX8_record_30 : decode cX8_record 30 = .ok (.iadd, 1) := by decide +kernel
theorem dX8_record_31 : decode cX8_record 31 = .ok (.iaload, 1) := by decide +kernel
theorem dX8_record_32 : decode cX8_record 32 = .ok (.iastore, 1) := by decide +kernel
theorem dX8_record_33 : decode cX8_record 33 = .ok (.iinc 1 1, 3) := by decide +kernel
theorem dX8_record_36 : decode cX8_record 36 = .ok (.goto (-26), 3) := by decide +kernel
theorem dX8_record_39 : decode cX8_record 39 = .ok (.aload_n 0, 1) := by decide +kernel
theorem dX8_record_40 : decode cX8_record 40 = .ok (.dup, 1) := by decide +kernel
theorem dX8_record_41 : decode cX8_record 41 = .ok (.getfield 41, 3) := by decide +kernel
theorem dX8_record_44 : decode cX8_record 44 = .ok (.iconst 1, 1) := by decide +kernel
theorem dX8_record_45 : decode cX8_record 45 = .ok (.isub, 1) := by decide +kernel
theorem dX8_record_46 : decode cX8_record 46 = .ok (.putfield 41, 3) := by decide +kernel
theorem dX8_record_49 : decode cX8_record 49 = .ok (.iconst 0, 1) := by decide +kernel
theorem dX8_record_50 : decode cX8_record 50 = .ok (.istore_n 1, 1) := by decide +kernel
theorem dX8_record_51 : decode cX8_record 51 = .ok (.iload_n 1, 1) := by decide +kernel
theorem dX8_record_52 : decode cX8_record 52 = .ok (.sipush 151, 3) := by decide +kernel
theorem dX8_record_55 : decode cX8_record 55 = .ok (.if_icmp .ge 30, 3) := by decide +kernel
theorem dX8_record_58 : decode cX8_record 58 = .ok (.aload_n 0, 1) := by decide +kernel
theorem dX8_record_59 : decode cX8_record 59 = .ok (.getfield 13, 3) := by decide +kernel
theorem dX8_record_62 : decode cX8_record 62 = .ok (.sipush 151, 3) := by decide +kernel
theorem dX8_record_65 : decode cX8_record 65 = .ok (.aload_n 0, 1) := by decide +kernel
theorem dX8_record_66 : decode cX8_record 66 = .ok (.getfield 41, 3) := by decide +kernel
theorem dX8_record_69 : decode cX8_record 69 = .ok (.imul, 1) := by decide +kernel
theorem dX8_record_70 : decode cX8_record 70 = .ok (.iload_n 1, 1) := by decide +kernel
theorem dX8_record_71 : decode cX8_record 71 = .ok (.iadd, 1) := by decide +kernel
theorem dX8_record_72 : decode cX8_record 72 = .ok (.aload_n 0, 1) := by decide +kernel
theorem dX8_record_73 : decode cX8_record 73 = .ok (.getfield 7, 3) := by decide +kernel
theorem dX8_record_76 : decode cX8_record 76 = .ok (.iload_n 1, 1) := by decide +kernel
theorem dX8_record_77 : decode cX8_record 77 = .ok (.iaload, 1) := by decide +kernel
theorem dX8_record_78 : decode cX8_record 78 = .ok (.iastore, 1) := by decide +kernel
theorem dX8_record_79 : decode cX8_record 79 = .ok (.iinc 1 1, 3) := by decide +kernel
theorem dX8_record_82 : decode cX8_record 82 = .ok (.goto (-31), 3) := by decide +kernel
theorem dX8_record_85 : decode cX8_record 85 = .ok (.aload_n 0, 1) := by decide +kernel
theorem dX8_record_86 : decode cX8_record 86 = .ok (.dup, 1) := by decide +kernel
theorem dX8_record_87 : decode cX8_record 87 = .ok (.getfield 41, 3) := by decide +kernel
theorem dX8_record_90 : decode cX8_record 90 = .ok (.iconst 1, 1) := by decide +kernel
theorem dX8_record_91 : decode cX8_record 91 = .ok (.iadd, 1) := by decide +kernel
theorem dX8_record_92 : decode cX8_record 92 = .ok (.putfield 41, 3) := by decide +kernel
theorem dX8_record_95 : decode cX8_record 95 = .ok (.return_, 1) := by decide +kernel
theorem dX8_undo_0 : decode cX8_undo 0 = .ok (.aload_n 0, 1) := by decide +kernel
theorem dX8_undo_1 : decode cX8_undo 1 = .ok (.getfield 41, 3) := by decide +kernel
theorem dX8_undo_4 : decode cX8_undo 4 = .ok (.ifCond .ne 6, 3) := by decide +kernel
theorem dX8_undo_7 : decode cX8_undo 7 = .ok (.bipush (-2), 2) := by decide +kernel
theorem dX8_undo_9 : decode cX8_undo 9 = .ok (.ireturn, 1) := by decide +kernel
theorem dX8_undo_10 : decode cX8_undo 10 = .ok (.aload_n 0, 1) := by decide +kernel
theorem dX8_undo_11 : decode cX8_undo 11 = .ok (.dup, 1) := by decide +kernel
theorem dX8_undo_12 : decode cX8_undo 12 = .ok (.getfield 41, 3) := by decide +kernel
theorem dX8_undo_15 : decode cX8_undo 15 = .ok (.iconst 1, 1) := by decide +kernel
theorem dX8_undo_16 : decode cX8_undo 16 = .ok (.isub, 1) := by decide +kernel
theorem dX8_undo_17 : decode cX8_undo 17 = .ok (.putfield 41, 3) := by decide +kernel
theorem dX8_undo_20 : decode cX8_undo 20 = .ok (.iconst 0, 1) := by decide +kernel
theorem dX8_undo_21 : decode cX8_undo 21 = .ok (.istore_n 1, 1) := by decide +kernel
theorem dX8_undo_22 : decode cX8_undo 22 = .ok (.iload_n 1, 1) := by decide +kernel
theorem dX8_undo_23 : decode cX8_undo 23 = .ok (.sipush 151, 3) := by decide +kernel
theorem dX8_undo_26 : decode cX8_undo 26 = .ok (.if_icmp .ge 30, 3) := by decide +kernel
theorem dX8_undo_29 : decode cX8_undo 29 = .ok (.aload_n 0, 1) := by decide +kernel
theorem dX8_undo_30 : decode cX8_undo 30 = .ok (.getfield 7, 3) := by decide +kernel
theorem dX8_undo_33 : decode cX8_undo 33 = .ok (.iload_n 1, 1) := by decide +kernel
theorem dX8_undo_34 : decode cX8_undo 34 = .ok (.aload_n 0, 1) := by decide +kernel
theorem dX8_undo_35 : decode cX8_undo 35 = .ok (.getfield 13, 3) := by decide +kernel
theorem dX8_undo_38 : decode cX8_undo 38 = .ok (.sipush 151, 3) := by decide +kernel
theorem dX8_undo_41 : decode cX8_undo 41 = .ok (.aload_n 0, 1) := by decide +kernel
theorem dX8_undo_42 : decode cX8_undo 42 = .ok (.getfield 41, 3) := by decide +kernel
theorem dX8_undo_45 : decode cX8_undo 45 = .ok (.imul, 1) := by decide +kernel
theorem dX8_undo_46 : decode cX8_undo 46 = .ok (.iload_n 1, 1) := by decide +kernel
theorem dX8_undo_47 : decode cX8_undo 47 = .ok (.iadd, 1) := by decide +kernel
theorem dX8_undo_48 : decode cX8_undo 48 = .ok (.iaload, 1) := by decide +kernel
theorem dX8_undo_49 : decode cX8_undo 49 = .ok (.iastore, 1) := by decide +kernel
theorem dX8_undo_50 : decode cX8_undo 50 = .ok (.iinc 1 1, 3) := by decide +kernel
theorem dX8_undo_53 : decode cX8_undo 53 = .ok (.goto (-31), 3) := by decide +kernel
theorem dX8_undo_56 : decode cX8_undo 56 = .ok (.aload_n 0, 1) := by decide +kernel
theorem dX8_undo_57 : decode cX8_undo 57 = .ok (.getfield 41, 3) := by decide +kernel
theorem dX8_undo_60 : decode cX8_undo 60 = .ok (.ireturn, 1) := by decide +kernel
theorem dX8_save_0 : decode cX8_save 0 = .ok (.iconst 0, 1) := by decide +kernel
theorem dX8_save_1 : decode cX8_save 1 = .ok (.istore_n 1, 1) := by decide +kernel
theorem dX8_save_2 : decode cX8_save 2 = .ok (.iload_n 1, 1) := by decide +kernel
theorem dX8_save_3 : decode cX8_save 3 = .ok (.sipush 151, 3) := by decide +kernel
theorem dX8_save_6 : decode cX8_save 6 = .ok (.if_icmp .ge 21, 3) := by decide +kernel
theorem dX8_save_9 : decode cX8_save 9 = .ok (.aload_n 0, 1) := by decide +kernel
theorem dX8_save_10 : decode cX8_save 10 = .ok (.getfield 16, 3) := by decide +kernel
theorem dX8_save_13 : decode cX8_save 13 = .ok (.iload_n 1, 1) := by decide +kernel
theorem dX8_save_14 : decode cX8_save 14 = .ok (.aload_n 0, 1) := by decide +kernel
theorem dX8_save_15 : decode cX8_save 15 = .ok (.getfield 7, 3) := by decide +kernel
theorem dX8_save_18 : decode cX8_save 18 = .ok (.iload_n 1, 1) := by decide +kernel
theorem dX8_save_19 : decode cX8_save 19 = .ok (.iaload, 1) := by decide +kernel
theorem dX8_save_20 : decode cX8_save 20 = .ok (.iastore, 1) := by decide +kernel
theorem dX8_save_21 : decode cX8_save 21 = .ok (.iinc 1 1, 3) := by decide +kernel
theorem dX8_save_24 : decode cX8_save 24 = .ok (.goto (-22), 3) := by decide +kernel
theorem dX8_save_27 : decode cX8_save 27 = .ok (.aload_n 0, 1) := by decide +kernel
theorem dX8_save_28 : decode cX8_save 28 = .ok (.iconst 1, 1) := by decide +kernel
theorem dX8_save_29 : decode cX8_save 29 = .ok (.putfield 45, 3) := by decide +kernel
theorem dX8_save_32 : decode cX8_save 32 = .ok (.aload_n 0, 1) := by decide +kernel
theorem dX8_save_33 : decode cX8_save 33 = .ok (.getfield 7, 3) := by decide +kernel
theorem dX8_save_36 : decode cX8_save 36 = .ok (.sipush 147, 3) := by decide +kernel
theorem dX8_save_39 : decode cX8_save 39 = .ok (.iaload, 1) := by decide +kernel
theorem dX8_save_40 : decode cX8_save 40 = .ok (.ireturn, 1) := by decide +kernel
set_option maxRecDepth 20000 in
theorem ggX8_restore_X8_record : GoodIn wsX8_restore wsX8_record := goodIn_r _ [8, 9, 10, 2, 70, 71, 72, 73, 74, 75, 76, 77, 78, 79, 80] (by decide +kernel) (by decide +kernel)
set_option maxRecDepth 20000 in
theorem gX8_restore_X8_record : GoodIn wsX8_restore (wsV RX8 49 RX8 yX8_record wsX8_record) := goodIn_app (goodIn_of _ (by decide +kernel)) ggX8_restore_X8_record
set_option maxRecDepth 20000 in
theorem ggX8_restore_X8_remember : GoodIn wsX8_restore wsX8_remember := goodIn_r _ [14, 2, 15, 16, 17, 7, 18, 19, 20, 21, 22, 23, 24, 25, 26, 27, 28, 29, 30, 31, 32, 33, 34, 35, 36, 37, 38, 39, 40, 41, 42, 43, 44, 45, 46, 47, 48, 49, 50, 51, 52, 53, 54, 55, 56, 57, 58, 59, 60, 61, 62, 63, 64, 65, 66, 67, 68, 69, 70, 71, 72, 73, 74, 75, 76, 77, 78, 79, 80] (by decide +kernel) (by decide +kernel)
set_option maxRecDepth 20000 in
theorem gX8_restore_X8_remember : GoodIn wsX8_restore (wsV RX8 34 RX8 yX8_remember wsX8_remember) := goodIn_app (goodIn_of _ (by decide +kernel)) ggX8_restore_X8_remember
theorem dX8_restore_0 : decode cX8_restore 0 = .ok (.aload_n 0, 1) := by decide +kernel
theorem dX8_restore_1 : decode cX8_restore 1 = .ok (.getfield 45, 3) := by decide +kernel
theorem dX8_restore_4 : decode cX8_restore 4 = .ok (.ifCond .ne 6, 3) := by decide +kernel
theorem dX8_restore_7 : decode cX8_restore 7 = .ok (.bipush (-2), 2) := by decide +kernel
theorem dX8_restore_9 : decode cX8_restore 9 = .ok (.ireturn, 1) := by decide +kernel
theorem dX8_restore_10 : decode cX8_restore 10 = .ok (.aload_n 0, 1) := by decide +kernel
theorem dX8_restore_11 : decode cX8_restore 11 = .ok (.invokevirtual 49, 3) := by decide +kernel
theorem dX8_restore_14 : decode cX8_restore 14 = .ok (.iconst 0, 1) := by decide +kernel
theorem dX8_restore_15 : decode cX8_restore 15 = .ok (.istore_n 1, 1) := by decide +kernel
theorem dX8_restore_16 : decode cX8_restore 16 = .ok (.iload_n 1, 1) := by decide +kernel
theorem dX8_restore_17 : decode cX8_restore 17 = .ok (.sipush 151, 3) := by decide +kernel
theorem dX8_restore_20 : decode cX8_restore 20 = .ok (.if_icmp .ge 21, 3) := by decide +kernel
theorem dX8_restore_23 : decode cX8_restore 23 = .ok (.aload_n 0, 1) := by decide +kernel
theorem dX8_restore_24 : decode cX8_restore 24 = .ok (.getfield 7, 3) := by decide +kernel
theorem dX8_restore_27 : decode cX8_restore 27 = .ok (.iload_n 1, 1) := by decide +kernel
theorem dX8_restore_28 : decode cX8_restore 28 = .ok (.aload_n 0, 1) := by decide +kernel
theorem dX8_restore_29 : decode cX8_restore 29 = .ok (.getfield 16, 3) := by decide +kernel
theorem dX8_restore_32 : decode cX8_restore 32 = .ok (.iload_n 1, 1) := by decide +kernel
theorem dX8_restore_33 : decode cX8_restore 33 = .ok (.iaload, 1) := by decide +kernel
theorem dX8_restore_34 : decode cX8_restore 34 = .ok (.iastore, 1) := by decide +kernel
theorem dX8_restore_35 : decode cX8_restore 35 = .ok (.iinc 1 1, 3) := by decide +kernel
theorem dX8_restore_38 : decode cX8_restore 38 = .ok (.goto (-22), 3) := by decide +kernel
theorem dX8_restore_41 : decode cX8_restore 41 = .ok (.aload_n 0, 1) := by decide +kernel
theorem dX8_restore_42 : decode cX8_restore 42 = .ok (.invokevirtual 34, 3) := by decide +kernel
theorem dX8_restore_45 : decode cX8_restore 45 = .ok (.aload_n 0, 1) := by decide +kernel
theorem dX8_restore_46 : decode cX8_restore 46 = .ok (.getfield 7, 3) := by decide +kernel
theorem dX8_restore_49 : decode cX8_restore 49 = .ok (.sipush 147, 3) := by decide +kernel
theorem dX8_restore_52 : decode cX8_restore 52 = .ok (.iaload, 1) := by decide +kernel
theorem dX8_restore_53 : decode cX8_restore 53 = .ok (.ireturn, 1) := by decide +kernel
theorem dX8_side_0 : decode cX8_side 0 = .ok (.iload_n 1, 1) := by decide +kernel
theorem dX8_side_1 : decode cX8_side 1 = .ok (.bipush 8, 2) := by decide +kernel
theorem dX8_side_3 : decode cX8_side 3 = .ok (.idiv, 1) := by decide +kernel
theorem dX8_side_4 : decode cX8_side 4 = .ok (.iload_n 0, 1) := by decide +kernel
theorem dX8_side_5 : decode cX8_side 5 = .ok (.bipush 8, 2) := by decide +kernel
theorem dX8_side_7 : decode cX8_side 7 = .ok (.idiv, 1) := by decide +kernel
theorem dX8_side_8 : decode cX8_side 8 = .ok (.isub, 1) := by decide +kernel
theorem dX8_side_9 : decode cX8_side 9 = .ok (.istore 4, 2) := by decide +kernel
theorem dX8_side_11 : decode cX8_side 11 = .ok (.iload_n 1, 1) := by decide +kernel
theorem dX8_side_12 : decode cX8_side 12 = .ok (.bipush 8, 2) := by decide +kernel
theorem dX8_side_14 : decode cX8_side 14 = .ok (.irem, 1) := by decide +kernel
theorem dX8_side_15 : decode cX8_side 15 = .ok (.iload_n 0, 1) := by decide +kernel
theorem dX8_side_16 : decode cX8_side 16 = .ok (.bipush 8, 2) := by decide +kernel
theorem dX8_side_18 : decode cX8_side 18 = .ok (.irem, 1) := by decide +kernel
theorem dX8_side_19 : decode cX8_side 19 = .ok (.isub, 1) := by decide +kernel
theorem dX8_side_20 : decode cX8_side 20 = .ok (.istore 5, 2) := by decide +kernel
theorem dX8_side_22 : decode cX8_side 22 = .ok (.iload 4, 2) := by decide +kernel
theorem dX8_side_24 : decode cX8_side 24 = .ok (.iload_n 3, 1) := by decide +kernel
theorem dX8_side_25 : decode cX8_side 25 = .ok (.iconst 2, 1) := by decide +kernel
theorem dX8_side_26 : decode cX8_side 26 = .ok (.iload_n 0, 1) := by decide +kernel
theorem dX8_side_27 : decode cX8_side 27 = .ok (.bipush 8, 2) := by decide +kernel
theorem dX8_side_29 : decode cX8_side 29 = .ok (.irem, 1) := by decide +kernel
theorem dX8_side_30 : decode cX8_side 30 = .ok (.imul, 1) := by decide +kernel
theorem dX8_side_31 : decode cX8_side 31 = .ok (.isub, 1) := by decide +kernel
theorem dX8_side_32 : decode cX8_side 32 = .ok (.iconst 1, 1) := by decide +kernel
theorem dX8_side_33 : decode cX8_side 33 = .ok (.isub, 1) := by decide +kernel
theorem dX8_side_34 : decode cX8_side 34 = .ok (.imul, 1) := by decide +kernel
theorem dX8_side_35 : decode cX8_side 35 = .ok (.iload 5, 2) := by decide +kernel
theorem dX8_side_37 : decode cX8_side 37 = .ok (.iload_n 2, 1) := by decide +kernel
theorem dX8_side_38 : decode cX8_side 38 = .ok (.iconst 2, 1) := by decide +kernel
theorem dX8_side_39 : decode cX8_side 39 = .ok (.iload_n 0, 1) := by decide +kernel
theorem dX8_side_40 : decode cX8_side 40 = .ok (.bipush 8, 2) := by decide +kernel
theorem dX8_side_42 : decode cX8_side 42 = .ok (.idiv, 1) := by decide +kernel
theorem dX8_side_43 : decode cX8_side 43 = .ok (.imul, 1) := by decide +kernel
theorem dX8_side_44 : decode cX8_side 44 = .ok (.isub, 1) := by decide +kernel
theorem dX8_side_45 : decode cX8_side 45 = .ok (.iconst 1, 1) := by decide +kernel
theorem dX8_side_46 : decode cX8_side 46 = .ok (.isub, 1) := by decide +kernel
theorem dX8_side_47 : decode cX8_side 47 = .ok (.imul, 1) := by decide +kernel
theorem dX8_side_48 : decode cX8_side 48 = .ok (.isub, 1) := by decide +kernel
theorem dX8_side_49 : decode cX8_side 49 = .ok (.ireturn, 1) := by decide +kernel
set_option maxRecDepth 20000 in
theorem ggX8_isBetween_X8_in : GoodIn wsX8_isBetween wsX8_in := goodIn_r _ [4] (by decide +kernel) (by decide +kernel)
set_option maxRecDepth 20000 in
theorem gX8_isBetween_X8_in : GoodIn wsX8_isBetween (va_wsS RX8 37 yX8_in wsX8_in) := goodIn_app (goodIn_of _ (by decide +kernel)) ggX8_isBetween_X8_in
theorem dX8_isBetween_0 : decode cX8_isBetween 0 = .ok (.iload_n 1, 1) := by decide +kernel
theorem dX8_isBetween_1 : decode cX8_isBetween 1 = .ok (.iload_n 2, 1) := by decide +kernel
theorem dX8_isBetween_2 : decode cX8_isBetween 2 = .ok (.if_icmp .ge 12, 3) := by decide +kernel
theorem dX8_isBetween_5 : decode cX8_isBetween 5 = .ok (.iload_n 0, 1) := by decide +kernel
theorem dX8_isBetween_6 : decode cX8_isBetween 6 = .ok (.iload_n 1, 1) := by decide +kernel
theorem dX8_isBetween_7 : decode cX8_isBetween 7 = .ok (.iload_n 2, 1) := by decide +kernel
theorem dX8_isBetween_8 : decode cX8_isBetween 8 = .ok (.invokestatic 37, 3) := by decide +kernel
theorem dX8_isBetween_11 : decode cX8_isBetween 11 = .ok (.goto 9, 3) := by decide +kernel
theorem dX8_isBetween_14 : decode cX8_isBetween 14 = .ok (.iload_n 0, 1) := by decide +kernel
theorem dX8_isBetween_15 : decode cX8_isBetween 15 = .ok (.iload_n 2, 1) := by decide +kernel
theorem dX8_isBetween_16 : decode cX8_isBetween 16 = .ok (.iload_n 1, 1) := by decide +kernel
theorem dX8_isBetween_17 : decode cX8_isBetween 17 = .ok (.invokestatic 37, 3) := by decide +kernel
theorem dX8_isBetween_20 : decode cX8_isBetween 20 = .ok (.ireturn, 1) := by decide +kernel
set_option maxRecDepth 20000 in
theorem ggX8_goesThrough_X8_isBetween : GoodIn wsX8_goesThrough wsX8_isBetween := goodIn_r _ [4, 5, 6, 3, 7] (by decide +kernel) (by decide +kernel)
set_option maxRecDepth 20000 in
theorem gX8_goesThrough_X8_isBetween : GoodIn wsX8_goesThrough (va_wsS RX8 52 yX8_isBetween wsX8_isBetween) := goodIn_app (goodIn_of _ (by decide +kernel)) ggX8_goesThrough_X8_isBetween
set_option maxRecDepth 20000 in
theorem ggX8_goesThrough_X8_side : GoodIn wsX8_goesThrough wsX8_side := goodIn_r _ [10] (by decide +kernel) (by decide +kernel)
set_option maxRecDepth 20000 in
theorem gX8_goesThrough_X8_side : GoodIn wsX8_goesThrough (va_wsS RX8 55 yX8_side wsX8_side) := goodIn_app (goodIn_of _ (by decide +kernel)) ggX8_goesThrough_X8_side
theorem dX8_goesThrough_0 : decode cX8_goesThrough 0 = .ok (.iload_n 2, 1) := by decide +kernel
theorem dX8_goesThrough_1 : decode cX8_goesThrough 1 = .ok (.iload_n 0, 1) := by decide +kernel
theorem dX8_goesThrough_2 : decode cX8_goesThrough 2 = .ok (.if_icmp .eq 12, 3) := by decide +kernel
theorem dX8_goesThrough_5 : decode cX8_goesThrough 5 = .ok (.iload_n 2, 1) := by decide +kernel
theorem dX8_goesThrough_6 : decode cX8_goesThrough 6 = .ok (.iload_n 1, 1) := by decide +kernel
theorem dX8_goesThrough_7 : decode cX8_goesThrough 7 = .ok (.if_icmp .eq 7, 3) := by decide +kernel
theorem dX8_goesThrough_10 : decode cX8_goesThrough 10 = .ok (.iconst 1, 1) := by decide +kernel
theorem dX8_goesThrough_11 : decode cX8_goesThrough 11 = .ok (.goto 4, 3) := by decide +kernel
theorem dX8_goesThrough_14 : decode cX8_goesThrough 14 = .ok (.iconst 0, 1) := by decide +kernel
theorem dX8_goesThrough_15 : decode cX8_goesThrough 15 = .ok (.istore_n 3, 1) := by decide +kernel
theorem dX8_goesThrough_16 : decode cX8_goesThrough 16 = .ok (.iload_n 3, 1) := by decide +kernel
theorem dX8_goesThrough_17 : decode cX8_goesThrough 17 = .ok (.ifCond .eq 39, 3) := by decide +kernel
theorem dX8_goesThrough_20 : decode cX8_goesThrough 20 = .ok (.iload_n 2, 1) := by decide +kernel
theorem dX8_goesThrough_21 : decode cX8_goesThrough 21 = .ok (.bipush 8, 2) := by decide +kernel
theorem dX8_goesThrough_23 : decode cX8_goesThrough 23 = .ok (.idiv, 1) := by decide +kernel
theorem dX8_goesThrough_24 : decode cX8_goesThrough 24 = .ok (.iload_n 0, 1) := by decide +kernel
theorem dX8_goesThrough_25 : decode cX8_goesThrough 25 = .ok (.bipush 8, 2) := by decide +kernel
theorem dX8_goesThrough_27 : decode cX8_goesThrough 27 = .ok (.idiv, 1) := by decide +kernel
theorem dX8_goesThrough_28 : decode cX8_goesThrough 28 = .ok (.iload_n 1, 1) := by decide +kernel
theorem dX8_goesThrough_29 : decode cX8_goesThrough 29 = .ok (.bipush 8, 2) := by decide +kernel
theorem dX8_goesThrough_31 : decode cX8_goesThrough 31 = .ok (.idiv, 1) := by decide +kernel
theorem dX8_goesThrough_32 : decode cX8_goesThrough 32 = .ok (.invokestatic 52, 3) := by decide +kernel
theorem dX8_goesThrough_35 : decode cX8_goesThrough 35 = .ok (.ifCond .eq 21, 3) := by decide +kernel
theorem dX8_goesThrough_38 : decode cX8_goesThrough 38 = .ok (.iload_n 2, 1) := by decide +kernel
theorem dX8_goesThrough_39 : decode cX8_goesThrough 39 = .ok (.bipush 8, 2) := by decide +kernel
theorem dX8_goesThrough_41 : decode cX8_goesThrough 41 = .ok (.irem, 1) := by decide +kernel
theorem dX8_goesThrough_42 : decode cX8_goesThrough 42 = .ok (.iload_n 0, 1) := by decide +kernel
theorem dX8_goesThrough_43 : decode cX8_goesThrough 43 = .ok (.bipush 8, 2) := by decide +kernel
theorem dX8_goesThrough_45 : decode cX8_goesThrough 45 = .ok (.irem, 1) := by decide +kernel
theorem dX8_goesThrough_46 : decode cX8_goesThrough 46 = .ok (.iload_n 1, 1) := by decide +kernel
theorem dX8_goesThrough_47 : decode cX8_goesThrough 47 = .ok (.bipush 8, 2) := by decide +kernel
theorem dX8_goesThrough_49 : decode cX8_goesThrough 49 = .ok (.irem, 1) := by decide +kernel
theorem dX8_goesThrough_50 : decode cX8_goesThrough 50 = .ok (.invokestatic 52, 3) := by decide +kernel
theorem dX8_goesThrough_53 : decode cX8_goesThrough 53 = .ok (.ifCond .ne 5, 3) := by decide +kernel
theorem dX8_goesThrough_56 : decode cX8_goesThrough 56 = .ok (.iconst 0, 1) := by decide +kernel
theorem dX8_goesThrough_57 : decode cX8_goesThrough 57 = .ok (.ireturn, 1) := by decide +kernel
theorem dX8_goesThrough_58 : decode cX8_goesThrough 58 = .ok (.iconst 2, 1) := by decide +kernel
theorem dX8_goesThrough_59 : decode cX8_goesThrough 59 = .ok (.iload_n 2, 1) := by decide +kernel
theorem dX8_goesThrough_60 : decode cX8_goesThrough 60 = .ok (.bipush 8, 2) := by decide +kernel
theorem dX8_goesThrough_62 : decode cX8_goesThrough 62 = .ok (.idiv, 1) := by decide +kernel
theorem dX8_goesThrough_63 : decode cX8_goesThrough 63 = .ok (.imul, 1) := by decide +kernel
theorem dX8_goesThrough_64 : decode cX8_goesThrough 64 = .ok (.istore 4, 2) := by decide +kernel
theorem dX8_goesThrough_66 : decode cX8_goesThrough 66 = .ok (.iconst 2, 1) := by decide +kernel
theorem dX8_goesThrough_67 : decode cX8_goesThrough 67 = .ok (.iload_n 2, 1) := by decide +kernel
theorem dX8_goesThrough_68 : decode cX8_goesThrough 68 = .ok (.bipush 8, 2) := by decide +kernel
theorem dX8_goesThrough_70 : decode cX8_goesThrough 70 = .ok (.irem, 1) := by decide +kernel
theorem dX8_goesThrough_71 : decode cX8_goesThrough 71 = .ok (.imul, 1) := by decide +kernel
theorem dX8_goesThrough_72 : decode cX8_goesThrough 72 = .ok (.istore 5, 2) := by decide +kernel
theorem dX8_goesThrough_74 : decode cX8_goesThrough 74 = .ok (.iload_n 0, 1) := by decide +kernel
theorem dX8_goesThrough_75 : decode cX8_goesThrough 75 = .ok (.iload_n 1, 1) := by decide +kernel
theorem dX8_goesThrough_76 : decode cX8_goesThrough 76 = .ok (.iload 4, 2) := by decide +kernel
theorem dX8_goesThrough_78 : decode cX8_goesThrough 78 = .ok (.iload 5, 2) := by decide +kernel
theorem dX8_goesThrough_80 : decode cX8_goesThrough 80 = .ok (.invokestatic 55, 3) := by decide +kernel
theorem dX8_goesThrough_83 : decode cX8_goesThrough 83 = .ok (.istore 6, 2) := by decide +kernel
theorem dX8_goesThrough_85 : decode cX8_goesThrough 85 = .ok (.iload_n 0, 1) := by decide +kernel
theorem dX8_goesThrough_86 : decode cX8_goesThrough 86 = .ok (.iload_n 1, 1) := by decide +kernel
theorem dX8_goesThrough_87 : decode cX8_goesThrough 87 = .ok (.iload 4, 2) := by decide +kernel
theorem dX8_goesThrough_89 : decode cX8_goesThrough 89 = .ok (.iconst 2, 1) := by decide +kernel
theorem dX8_goesThrough_90 : decode cX8_goesThrough 90 = .ok (.iadd, 1) := by decide +kernel
theorem dX8_goesThrough_91 : decode cX8_goesThrough 91 = .ok (.iload 5, 2) := by decide +kernel
theorem dX8_goesThrough_93 : decode cX8_goesThrough 93 = .ok (.invokestatic 55, 3) := by decide +kernel
theorem dX8_goesThrough_96 : decode cX8_goesThrough 96 = .ok (.istore 7, 2) := by decide +kernel
theorem dX8_goesThrough_98 : decode cX8_goesThrough 98 = .ok (.iload_n 0, 1) := by decide +kernel
theorem dX8_goesThrough_99 : decode cX8_goesThrough 99 = .ok (.iload_n 1, 1) := by decide +kernel
theorem dX8_goesThrough_100 : decode cX8_goesThrough 100 = .ok (.iload 4, 2) := by decide +kernel
theorem dX8_goesThrough_102 : decode cX8_goesThrough 102 = .ok (.iload 5, 2) := by decide +kernel
theorem dX8_goesThrough_104 : decode cX8_goesThrough 104 = .ok (.iconst 2, 1) := by decide +kernel
theorem dX8_goesThrough_105 : decode cX8_goesThrough 105 = .ok (.iadd, 1) := by decide +kernel
theorem dX8_goesThrough_106 : decode cX8_goesThrough 106 = .ok (.invokestatic 55, 3) := by decide +kernel
theorem dX8_goesThrough_109 : decode cX8_goesThrough 109 = .ok (.istore 8, 2) := by decide +kernel
theorem dX8_goesThrough_111 : decode cX8_goesThrough 111 = .ok (.iload_n 0, 1) := by decide +kernel
theorem dX8_goesThrough_112 : decode cX8_goesThrough 112 = .ok (.iload_n 1, 1) := by decide +kernel
theorem dX8_goesThrough_113 : decode cX8_goesThrough 113 = .ok (.iload 4, 2) := by decide +kernel
theorem dX8_goesThrough_115 : decode cX8_goesThrough 115 = .ok (.iconst 2, 1) := by decide +kernel
theorem dX8_goesThrough_116 : decode cX8_goesThrough 116 = .ok (.iadd, 1) := by decide +kernel
theorem dX8_goesThrough_117 : decode cX8_goesThrough 117 = .ok (.iload 5, 2) := by decide +kernel
theorem dX8_goesThrough_119 : decode cX8_goesThrough 119 = .ok (.iconst 2, 1) := by decide +kernel
theorem dX8_goesThrough_120 : decode cX8_goesThrough 120 = .ok (.iadd, 1) := by decide +kernel
theorem dX8_goesThrough_121 : decode cX8_goesThrough 121 = .ok (.invokestatic 55, 3) := by decide +kernel
theorem dX8_goesThrough_124 : decode cX8_goesThrough 124 = .ok (.istore 9, 2) := by decide +kernel
theorem dX8_goesThrough_126 : decode cX8_goesThrough 126 = .ok (.iload 6, 2) := by decide +kernel
theorem dX8_goesThrough_128 : decode cX8_goesThrough 128 = .ok (.ifCond .gt 18, 3) := by decide +kernel
theorem dX8_goesThrough_131 : decode cX8_goesThrough 131 = .ok (.iload 7, 2) := by decide +kernel
theorem dX8_goesThrough_133 : decode cX8_goesThrough 133 = .ok (.ifCond .gt 13, 3) := by decide +kernel
theorem dX8_goesThrough_136 : decode cX8_goesThrough 136 = .ok (.iload 8, 2) := by decide +kernel
theorem dX8_goesThrough_138 : decode cX8_goesThrough 138 = .ok (.ifCond .gt 8, 3) := by decide +kernel
theorem dX8_goesThrough_141 : decode cX8_goesThrough 141 = .ok (.iload 9, 2) := by decide +kernel
theorem dX8_goesThrough_143 : decode cX8_goesThrough 143 = .ok (.ifCond .le 7, 3) := by decide +kernel
theorem dX8_goesThrough_146 : decode cX8_goesThrough 146 = .ok (.iconst 1, 1) := by decide +kernel
theorem dX8_goesThrough_147 : decode cX8_goesThrough 147 = .ok (.goto 4, 3) := by decide +kernel
theorem dX8_goesThrough_150 : decode cX8_goesThrough 150 = .ok (.iconst 0, 1) := by decide +kernel
theorem dX8_goesThrough_151 : decode cX8_goesThrough 151 = .ok (.istore 10, 2) := by decide +kernel
theorem dX8_goesThrough_153 : decode cX8_goesThrough 153 = .ok (.iload 10, 2) := by decide +kernel
theorem dX8_goesThrough_155 : decode cX8_goesThrough 155 = .ok (.ifCond .eq 27, 3) := by decide +kernel
theorem dX8_goesThrough_158 : decode cX8_goesThrough 158 = .ok (.iload 6, 2) := by decide +kernel
theorem dX8_goesThrough_160 : decode cX8_goesThrough 160 = .ok (.ifCond .lt 18, 3) := by decide +kernel
theorem dX8_goesThrough_163 : decode cX8_goesThrough 163 = .ok (.iload 7, 2) := by decide +kernel
theorem dX8_goesThrough_165 : decode cX8_goesThrough 165 = .ok (.ifCond .lt 13, 3) := by decide +kernel
theorem dX8_goesThrough_168 : decode cX8_goesThrough 168 = .ok (.iload 8, 2) := by decide +kernel
theorem dX8_goesThrough_170 : decode cX8_goesThrough 170 = .ok (.ifCond .lt 8, 3) := by decide +kernel
theorem dX8_goesThrough_173 : decode cX8_goesThrough 173 = .ok (.iload 9, 2) := by decide +kernel
theorem dX8_goesThrough_175 : decode cX8_goesThrough 175 = .ok (.ifCond .ge 7, 3) := by decide +kernel
theorem dX8_goesThrough_178 : decode cX8_goesThrough 178 = .ok (.iconst 1, 1) := by decide +kernel
theorem dX8_goesThrough_179 : decode cX8_goesThrough 179 = .ok (.goto 4, 3) := by decide +kernel
theorem dX8_goesThrough_182 : decode cX8_goesThrough 182 = .ok (.iconst 0, 1) := by decide +kernel
theorem dX8_goesThrough_183 : decode cX8_goesThrough 183 = .ok (.ireturn, 1) := by decide +kernel
set_option maxRecDepth 20000 in
theorem ggX8_isDarkAt_X8_isDark : GoodIn wsX8_isDarkAt wsX8_isDark := goodIn_r _ [5] (by decide +kernel) (by decide +kernel)
set_option maxRecDepth 20000 in
theorem gX8_isDarkAt_X8_isDark : GoodIn wsX8_isDarkAt (va_wsS RX8 59 yX8_isDark wsX8_isDark) := goodIn_app (goodIn_of _ (by decide +kernel)) ggX8_isDarkAt_X8_isDark
theorem dX8_isDarkAt_0 : decode cX8_isDarkAt 0 = .ok (.aload_n 0, 1) := by decide +kernel
theorem dX8_isDarkAt_1 : decode cX8_isDarkAt 1 = .ok (.getfield 7, 3) := by decide +kernel
theorem dX8_isDarkAt_4 : decode cX8_isDarkAt 4 = .ok (.iconst 0, 1) := by decide +kernel
theorem dX8_isDarkAt_5 : decode cX8_isDarkAt 5 = .ok (.bipush 8, 2) := by decide +kernel
theorem dX8_isDarkAt_7 : decode cX8_isDarkAt 7 = .ok (.iload_n 1, 1) := by decide +kernel
theorem dX8_isDarkAt_8 : decode cX8_isDarkAt 8 = .ok (.imul, 1) := by decide +kernel
theorem dX8_isDarkAt_9 : decode cX8_isDarkAt 9 = .ok (.iadd, 1) := by decide +kernel
theorem dX8_isDarkAt_10 : decode cX8_isDarkAt 10 = .ok (.iload_n 2, 1) := by decide +kernel
theorem dX8_isDarkAt_11 : decode cX8_isDarkAt 11 = .ok (.iadd, 1) := by decide +kernel
theorem dX8_isDarkAt_12 : decode cX8_isDarkAt 12 = .ok (.iaload, 1) := by decide +kernel
theorem dX8_isDarkAt_13 : decode cX8_isDarkAt 13 = .ok (.invokestatic 59, 3) := by decide +kernel
theorem dX8_isDarkAt_16 : decode cX8_isDarkAt 16 = .ok (.ireturn, 1) := by decide +kernel
set_option maxRecDepth 20000 in
theorem ggX8_isSqueezed_X8_least : GoodIn wsX8_isSqueezed wsX8_least := goodIn_r _ [4] (by decide +kernel) (by decide +kernel)
set_option maxRecDepth 20000 in
theorem gX8_isSqueezed_X8_least : GoodIn wsX8_isSqueezed (va_wsS RX8 63 yX8_least wsX8_least) := goodIn_app (goodIn_of _ (by decide +kernel)) ggX8_isSqueezed_X8_least
set_option maxRecDepth 20000 in
theorem ggX8_isSqueezed_X8_most : GoodIn wsX8_isSqueezed wsX8_most := goodIn_r _ [7] (by decide +kernel) (by decide +kernel)
set_option maxRecDepth 20000 in
theorem gX8_isSqueezed_X8_most : GoodIn wsX8_isSqueezed (va_wsS RX8 67 yX8_most wsX8_most) := goodIn_app (goodIn_of _ (by decide +kernel)) ggX8_isSqueezed_X8_most
set_option maxRecDepth 20000 in
theorem ggX8_isSqueezed_X8_in : GoodIn wsX8_isSqueezed wsX8_in := goodIn_r _ [10] (by decide +kernel) (by decide +kernel)
set_option maxRecDepth 20000 in
theorem gX8_isSqueezed_X8_in : GoodIn wsX8_isSqueezed (va_wsS RX8 37 yX8_in wsX8_in) := goodIn_app (goodIn_of _ (by decide +kernel)) ggX8_isSqueezed_X8_in
set_option maxRecDepth 20000 in
theorem ggX8_isSqueezed_X8_side : GoodIn wsX8_isSqueezed wsX8_side := goodIn_r _ [13] (by decide +kernel) (by decide +kernel)
set_option maxRecDepth 20000 in
theorem gX8_isSqueezed_X8_side : GoodIn wsX8_isSqueezed (va_wsS RX8 55 yX8_side wsX8_side) := goodIn_app (goodIn_of _ (by decide +kernel)) ggX8_isSqueezed_X8_side
set_option maxRecDepth 20000 in
theorem ggX8_isSqueezed_X8_isDarkAt : GoodIn wsX8_isSqueezed wsX8_isDarkAt := goodIn_r _ [17, 18, 19, 20, 3, 21, 22, 23, 24, 25, 26, 27, 28, 29, 30, 31, 32] (by decide +kernel) (by decide +kernel)
set_option maxRecDepth 20000 in
theorem gX8_isSqueezed_X8_isDarkAt : GoodIn wsX8_isSqueezed (wsV RX8 70 RX8 yX8_isDarkAt wsX8_isDarkAt) := goodIn_app (goodIn_of _ (by decide +kernel)) ggX8_isSqueezed_X8_isDarkAt
theorem dX8_isSqueezed_0 : decode cX8_isSqueezed 0 = .ok (.iload_n 2, 1) := by decide +kernel
theorem dX8_isSqueezed_1 : decode cX8_isSqueezed 1 = .ok (.bipush 8, 2) := by decide +kernel
theorem dX8_isSqueezed_3 : decode cX8_isSqueezed 3 = .ok (.idiv, 1) := by decide +kernel
theorem dX8_isSqueezed_4 : decode cX8_isSqueezed 4 = .ok (.iload_n 1, 1) := by decide +kernel
theorem dX8_isSqueezed_5 : decode cX8_isSqueezed 5 = .ok (.bipush 8, 2) := by decide +kernel
theorem dX8_isSqueezed_7 : decode cX8_isSqueezed 7 = .ok (.idiv, 1) := by decide +kernel
theorem dX8_isSqueezed_8 : decode cX8_isSqueezed 8 = .ok (.isub, 1) := by decide +kernel
theorem dX8_isSqueezed_9 : decode cX8_isSqueezed 9 = .ok (.istore 5, 2) := by decide +kernel
theorem dX8_isSqueezed_11 : decode cX8_isSqueezed 11 = .ok (.iload_n 2, 1) := by decide +kernel
theorem dX8_isSqueezed_12 : decode cX8_isSqueezed 12 = .ok (.bipush 8, 2) := by decide +kernel
theorem dX8_isSqueezed_14 : decode cX8_isSqueezed 14 = .ok (.irem, 1) := by decide +kernel
theorem dX8_isSqueezed_15 : decode cX8_isSqueezed 15 = .ok (.iload_n 1, 1) := by decide +kernel
theorem dX8_isSqueezed_16 : decode cX8_isSqueezed 16 = .ok (.bipush 8, 2) := by decide +kernel
theorem dX8_isSqueezed_18 : decode cX8_isSqueezed 18 = .ok (.irem, 1) := by decide +kernel
theorem dX8_isSqueezed_19 : decode cX8_isSqueezed 19 = .ok (.isub, 1) := by decide +kernel
theorem dX8_isSqueezed_20 : decode cX8_isSqueezed 20 = .ok (.istore 6, 2) := by decide +kernel
theorem dX8_isSqueezed_22 : decode cX8_isSqueezed 22 = .ok (.iload_n 3, 1) := by decide +kernel
theorem dX8_isSqueezed_23 : decode cX8_isSqueezed 23 = .ok (.iload_n 1, 1) := by decide +kernel
theorem dX8_isSqueezed_24 : decode cX8_isSqueezed 24 = .ok (.bipush 8, 2) := by decide +kernel
theorem dX8_isSqueezed_26 : decode cX8_isSqueezed 26 = .ok (.idiv, 1) := by decide +kernel
theorem dX8_isSqueezed_27 : decode cX8_isSqueezed 27 = .ok (.iload_n 2, 1) := by decide +kernel
theorem dX8_isSqueezed_28 : decode cX8_isSqueezed 28 = .ok (.bipush 8, 2) := by decide +kernel
theorem dX8_isSqueezed_30 : decode cX8_isSqueezed 30 = .ok (.idiv, 1) := by decide +kernel
theorem dX8_isSqueezed_31 : decode cX8_isSqueezed 31 = .ok (.invokestatic 63, 3) := by decide +kernel
theorem dX8_isSqueezed_34 : decode cX8_isSqueezed 34 = .ok (.iconst 1, 1) := by decide +kernel
theorem dX8_isSqueezed_35 : decode cX8_isSqueezed 35 = .ok (.iadd, 1) := by decide +kernel
theorem dX8_isSqueezed_36 : decode cX8_isSqueezed 36 = .ok (.iload_n 1, 1) := by decide +kernel
theorem dX8_isSqueezed_37 : decode cX8_isSqueezed 37 = .ok (.bipush 8, 2) := by decide +kernel
theorem dX8_isSqueezed_39 : decode cX8_isSqueezed 39 = .ok (.idiv, 1) := by decide +kernel
theorem dX8_isSqueezed_40 : decode cX8_isSqueezed 40 = .ok (.iload_n 2, 1) := by decide +kernel
theorem dX8_isSqueezed_41 : decode cX8_isSqueezed 41 = .ok (.bipush 8, 2) := by decide +kernel
theorem dX8_isSqueezed_43 : decode cX8_isSqueezed 43 = .ok (.idiv, 1) := by decide +kernel
theorem dX8_isSqueezed_44 : decode cX8_isSqueezed 44 = .ok (.invokestatic 67, 3) := by decide +kernel
theorem dX8_isSqueezed_47 : decode cX8_isSqueezed 47 = .ok (.invokestatic 37, 3) := by decide +kernel
theorem dX8_isSqueezed_50 : decode cX8_isSqueezed 50 = .ok (.ifCond .eq 39, 3) := by decide +kernel
theorem dX8_isSqueezed_53 : decode cX8_isSqueezed 53 = .ok (.iload 4, 2) := by decide +kernel
theorem dX8_isSqueezed_55 : decode cX8_isSqueezed 55 = .ok (.iload_n 1, 1) := by decide +kernel
theorem dX8_isSqueezed_56 : decode cX8_isSqueezed 56 = .ok (.bipush 8, 2) := by decide +kernel
theorem dX8_isSqueezed_58 : decode cX8_isSqueezed 58 = .ok (.irem, 1) := by decide +kernel
theorem dX8_isSqueezed_59 : decode cX8_isSqueezed 59 = .ok (.iload_n 2, 1) := by decide +kernel
theorem dX8_isSqueezed_60 : decode cX8_isSqueezed 60 = .ok (.bipush 8, 2) := by decide +kernel
theorem dX8_isSqueezed_62 : decode cX8_isSqueezed 62 = .ok (.irem, 1) := by decide +kernel
theorem dX8_isSqueezed_63 : decode cX8_isSqueezed 63 = .ok (.invokestatic 63, 3) := by decide +kernel
theorem dX8_isSqueezed_66 : decode cX8_isSqueezed 66 = .ok (.iconst 1, 1) := by decide +kernel
theorem dX8_isSqueezed_67 : decode cX8_isSqueezed 67 = .ok (.iadd, 1) := by decide +kernel
theorem dX8_isSqueezed_68 : decode cX8_isSqueezed 68 = .ok (.iload_n 1, 1) := by decide +kernel
theorem dX8_isSqueezed_69 : decode cX8_isSqueezed 69 = .ok (.bipush 8, 2) := by decide +kernel
theorem dX8_isSqueezed_71 : decode cX8_isSqueezed 71 = .ok (.irem, 1) := by decide +kernel
theorem dX8_isSqueezed_72 : decode cX8_isSqueezed 72 = .ok (.iload_n 2, 1) := by decide +kernel
theorem dX8_isSqueezed_73 : decode cX8_isSqueezed 73 = .ok (.bipush 8, 2) := by decide +kernel
theorem dX8_isSqueezed_75 : decode cX8_isSqueezed 75 = .ok (.irem, 1) := by decide +kernel
theorem dX8_isSqueezed_76 : decode cX8_isSqueezed 76 = .ok (.invokestatic 67, 3) := by decide +kernel
theorem dX8_isSqueezed_79 : decode cX8_isSqueezed 79 = .ok (.invokestatic 37, 3) := by decide +kernel
theorem dX8_isSqueezed_82 : decode cX8_isSqueezed 82 = .ok (.ifCond .eq 7, 3) := by decide +kernel
theorem dX8_isSqueezed_85 : decode cX8_isSqueezed 85 = .ok (.iconst 1, 1) := by decide +kernel
theorem dX8_isSqueezed_86 : decode cX8_isSqueezed 86 = .ok (.goto 4, 3) := by decide +kernel
theorem dX8_isSqueezed_89 : decode cX8_isSqueezed 89 = .ok (.iconst 0, 1) := by decide +kernel
theorem dX8_isSqueezed_90 : decode cX8_isSqueezed 90 = .ok (.istore 7, 2) := by decide +kernel
theorem dX8_isSqueezed_92 : decode cX8_isSqueezed 92 = .ok (.iload 7, 2) := by decide +kernel
theorem dX8_isSqueezed_94 : decode cX8_isSqueezed 94 = .ok (.ifCond .eq 18, 3) := by decide +kernel
theorem dX8_isSqueezed_97 : decode cX8_isSqueezed 97 = .ok (.iload_n 1, 1) := by decide +kernel
theorem dX8_isSqueezed_98 : decode cX8_isSqueezed 98 = .ok (.iload_n 2, 1) := by decide +kernel
theorem dX8_isSqueezed_99 : decode cX8_isSqueezed 99 = .ok (.iconst 2, 1) := by decide +kernel
theorem dX8_isSqueezed_100 : decode cX8_isSqueezed 100 = .ok (.iload_n 3, 1) := by decide +kernel
theorem dX8_isSqueezed_101 : decode cX8_isSqueezed 101 = .ok (.imul, 1) := by decide +kernel
theorem dX8_isSqueezed_102 : decode cX8_isSqueezed 102 = .ok (.iconst 2, 1) := by decide +kernel
theorem dX8_isSqueezed_103 : decode cX8_isSqueezed 103 = .ok (.iload 4, 2) := by decide +kernel
theorem dX8_isSqueezed_105 : decode cX8_isSqueezed 105 = .ok (.imul, 1) := by decide +kernel
theorem dX8_isSqueezed_106 : decode cX8_isSqueezed 106 = .ok (.invokestatic 55, 3) := by decide +kernel
theorem dX8_isSqueezed_109 : decode cX8_isSqueezed 109 = .ok (.ifCond .eq 5, 3) := by decide +kernel
theorem dX8_isSqueezed_112 : decode cX8_isSqueezed 112 = .ok (.iconst 0, 1) := by decide +kernel
theorem dX8_isSqueezed_113 : decode cX8_isSqueezed 113 = .ok (.ireturn, 1) := by decide +kernel
theorem dX8_isSqueezed_114 : decode cX8_isSqueezed 114 = .ok (.iload 5, 2) := by decide +kernel
theorem dX8_isSqueezed_116 : decode cX8_isSqueezed 116 = .ok (.ifCond .le 7, 3) := by decide +kernel
theorem dX8_isSqueezed_119 : decode cX8_isSqueezed 119 = .ok (.iconst 1, 1) := by decide +kernel
theorem dX8_isSqueezed_120 : decode cX8_isSqueezed 120 = .ok (.goto 4, 3) := by decide +kernel
theorem dX8_isSqueezed_123 : decode cX8_isSqueezed 123 = .ok (.iconst 0, 1) := by decide +kernel
theorem dX8_isSqueezed_124 : decode cX8_isSqueezed 124 = .ok (.iload 6, 2) := by decide +kernel
theorem dX8_isSqueezed_126 : decode cX8_isSqueezed 126 = .ok (.ifCond .le 7, 3) := by decide +kernel
theorem dX8_isSqueezed_129 : decode cX8_isSqueezed 129 = .ok (.iconst 1, 1) := by decide +kernel
theorem dX8_isSqueezed_130 : decode cX8_isSqueezed 130 = .ok (.goto 4, 3) := by decide +kernel
theorem dX8_isSqueezed_133 : decode cX8_isSqueezed 133 = .ok (.iconst 0, 1) := by decide +kernel
theorem dX8_isSqueezed_134 : decode cX8_isSqueezed 134 = .ok (.if_icmp .ne 7, 3) := by decide +kernel
theorem dX8_isSqueezed_137 : decode cX8_isSqueezed 137 = .ok (.iconst 1, 1) := by decide +kernel
theorem dX8_isSqueezed_138 : decode cX8_isSqueezed 138 = .ok (.goto 4, 3) := by decide +kernel
theorem dX8_isSqueezed_141 : decode cX8_isSqueezed 141 = .ok (.iconst 0, 1) := by decide +kernel
theorem dX8_isSqueezed_142 : decode cX8_isSqueezed 142 = .ok (.istore 8, 2) := by decide +kernel
theorem dX8_isSqueezed_144 : decode cX8_isSqueezed 144 = .ok (.iload 8, 2) := by decide +kernel
theorem dX8_isSqueezed_146 : decode cX8_isSqueezed 146 = .ok (.ifCond .eq 35, 3) := by decide +kernel
theorem dX8_isSqueezed_149 : decode cX8_isSqueezed 149 = .ok (.aload_n 0, 1) := by decide +kernel
theorem dX8_isSqueezed_150 : decode cX8_isSqueezed 150 = .ok (.iload_n 3, 1) := by decide +kernel
theorem dX8_isSqueezed_151 : decode cX8_isSqueezed 151 = .ok (.iconst 1, 1) := by decide +kernel
theorem dX8_isSqueezed_152 : decode cX8_isSqueezed 152 = .ok (.isub, 1) := by decide +kernel
theorem dX8_isSqueezed_153 : decode cX8_isSqueezed 153 = .ok (.iload 4, 2) := by decide +kernel
theorem dX8_isSqueezed_155 : decode cX8_isSqueezed 155 = .ok (.invokevirtual 70, 3) := by decide +kernel
theorem dX8_isSqueezed_158 : decode cX8_isSqueezed 158 = .ok (.ifCond .eq 19, 3) := by decide +kernel
theorem dX8_isSqueezed_161 : decode cX8_isSqueezed 161 = .ok (.aload_n 0, 1) := by decide +kernel
theorem dX8_isSqueezed_162 : decode cX8_isSqueezed 162 = .ok (.iload_n 3, 1) := by decide +kernel
theorem dX8_isSqueezed_163 : decode cX8_isSqueezed 163 = .ok (.iload 4, 2) := by decide +kernel
theorem dX8_isSqueezed_165 : decode cX8_isSqueezed 165 = .ok (.iconst 1, 1) := by decide +kernel
theorem dX8_isSqueezed_166 : decode cX8_isSqueezed 166 = .ok (.isub, 1) := by decide +kernel
theorem dX8_isSqueezed_167 : decode cX8_isSqueezed 167 = .ok (.invokevirtual 70, 3) := by decide +kernel
theorem dX8_isSqueezed_170 : decode cX8_isSqueezed 170 = .ok (.ifCond .eq 7, 3) := by decide +kernel
theorem dX8_isSqueezed_173 : decode cX8_isSqueezed 173 = .ok (.iconst 1, 1) := by decide +kernel
theorem dX8_isSqueezed_174 : decode cX8_isSqueezed 174 = .ok (.goto 36, 3) := by decide +kernel
theorem dX8_isSqueezed_177 : decode cX8_isSqueezed 177 = .ok (.iconst 0, 1) := by decide +kernel
theorem dX8_isSqueezed_178 : decode cX8_isSqueezed 178 = .ok (.goto 32, 3) := by decide +kernel
theorem dX8_isSqueezed_181 : decode cX8_isSqueezed 181 = .ok (.aload_n 0, 1) := by decide +kernel
theorem dX8_isSqueezed_182 : decode cX8_isSqueezed 182 = .ok (.iload_n 3, 1) := by decide +kernel
theorem dX8_isSqueezed_183 : decode cX8_isSqueezed 183 = .ok (.iconst 1, 1) := by decide +kernel
theorem dX8_isSqueezed_184 : decode cX8_isSqueezed 184 = .ok (.isub, 1) := by decide +kernel
theorem dX8_isSqueezed_185 : decode cX8_isSqueezed 185 = .ok (.iload 4, 2) := by decide +kernel
theorem dX8_isSqueezed_187 : decode cX8_isSqueezed 187 = .ok (.iconst 1, 1) := by decide +kernel
theorem dX8_isSqueezed_188 : decode cX8_isSqueezed 188 = .ok (.isub, 1) := by decide +kernel
theorem dX8_isSqueezed_189 : decode cX8_isSqueezed 189 = .ok (.invokevirtual 70, 3) := by decide +kernel
theorem dX8_isSqueezed_192 : decode cX8_isSqueezed 192 = .ok (.ifCond .eq 17, 3) := by decide +kernel
theorem dX8_isSqueezed_195 : decode cX8_isSqueezed 195 = .ok (.aload_n 0, 1) := by decide +kernel
theorem dX8_isSqueezed_196 : decode cX8_isSqueezed 196 = .ok (.iload_n 3, 1) := by decide +kernel
theorem dX8_isSqueezed_197 : decode cX8_isSqueezed 197 = .ok (.iload 4, 2) := by decide +kernel
theorem dX8_isSqueezed_199 : decode cX8_isSqueezed 199 = .ok (.invokevirtual 70, 3) := by decide +kernel
theorem dX8_isSqueezed_202 : decode cX8_isSqueezed 202 = .ok (.ifCond .eq 7, 3) := by decide +kernel
theorem dX8_isSqueezed_205 : decode cX8_isSqueezed 205 = .ok (.iconst 1, 1) := by decide +kernel
theorem dX8_isSqueezed_206 : decode cX8_isSqueezed 206 = .ok (.goto 4, 3) := by decide +kernel
theorem dX8_isSqueezed_209 : decode cX8_isSqueezed 209 = .ok (.iconst 0, 1) := by decide +kernel
theorem dX8_isSqueezed_210 : decode cX8_isSqueezed 210 = .ok (.ireturn, 1) := by decide +kernel
theorem dX8_least_0 : decode cX8_least 0 = .ok (.iload_n 0, 1) := by decide +kernel
theorem dX8_least_1 : decode cX8_least 1 = .ok (.iload_n 1, 1) := by decide +kernel
theorem dX8_least_2 : decode cX8_least 2 = .ok (.if_icmp .ge 7, 3) := by decide +kernel
theorem dX8_least_5 : decode cX8_least 5 = .ok (.iload_n 0, 1) := by decide +kernel
theorem dX8_least_6 : decode cX8_least 6 = .ok (.goto 4, 3) := by decide +kernel
theorem dX8_least_9 : decode cX8_least 9 = .ok (.iload_n 1, 1) := by decide +kernel
theorem dX8_least_10 : decode cX8_least 10 = .ok (.ireturn, 1) := by decide +kernel
theorem dX8_most_0 : decode cX8_most 0 = .ok (.iload_n 0, 1) := by decide +kernel
theorem dX8_most_1 : decode cX8_most 1 = .ok (.iload_n 1, 1) := by decide +kernel
theorem dX8_most_2 : decode cX8_most 2 = .ok (.if_icmp .le 7, 3) := by decide +kernel
theorem dX8_most_5 : decode cX8_most 5 = .ok (.iload_n 0, 1) := by decide +kernel
theorem dX8_most_6 : decode cX8_most 6 = .ok (.goto 4, 3) := by decide +kernel
theorem dX8_most_9 : decode cX8_most 9 = .ok (.iload_n 1, 1) := by decide +kernel
theorem dX8_most_10 : decode cX8_most 10 = .ok (.ireturn, 1) := by decide +kernel
set_option maxRecDepth 20000 in
theorem ggX8_isFree_X8_isDark : GoodIn wsX8_isFree wsX8_isDark := goodIn_r _ [5] (by decide +kernel) (by decide +kernel)
set_option maxRecDepth 20000 in
theorem gX8_isFree_X8_isDark : GoodIn wsX8_isFree (va_wsS RX8 59 yX8_isDark wsX8_isDark) := goodIn_app (goodIn_of _ (by decide +kernel)) ggX8_isFree_X8_isDark
set_option maxRecDepth 20000 in
theorem ggX8_isFree_X8_goesThrough : GoodIn wsX8_isFree wsX8_goesThrough := goodIn_r _ [8, 9, 10, 4, 11, 12, 13, 14, 15, 16, 17] (by decide +kernel) (by decide +kernel)
set_option maxRecDepth 20000 in
theorem gX8_isFree_X8_goesThrough : GoodIn wsX8_isFree (va_wsS RX8 74 yX8_goesThrough wsX8_goesThrough) := goodIn_app (goodIn_of _ (by decide +kernel)) ggX8_isFree_X8_goesThrough
set_option maxRecDepth 20000 in
theorem ggX8_isFree_X8_isSqueezed : GoodIn wsX8_isFree wsX8_isSqueezed := goodIn_r _ [21, 22, 23, 4, 24, 25, 26, 27, 12, 13, 14, 15, 16, 17, 28, 29, 30, 31, 1, 2, 3, 5, 32, 33, 34, 35, 36, 37, 38, 39, 40, 41, 42] (by decide +kernel) (by decide +kernel)
set_option maxRecDepth 20000 in
theorem gX8_isFree_X8_isSqueezed : GoodIn wsX8_isFree (wsV RX8 77 RX8 yX8_isSqueezed wsX8_isSqueezed) := goodIn_app (goodIn_of _ (by decide +kernel)) ggX8_isFree_X8_isSqueezed
theorem dX8_isFree_0 : decode cX8_isFree 0 = .ok (.iconst 1, 1) := by decide +kernel
theorem dX8_isFree_1 : decode cX8_isFree 1 = .ok (.istore_n 3, 1) := by decide +kernel
theorem dX8_isFree_2 : decode cX8_isFree 2 = .ok (.iconst 0, 1) := by decide +kernel
theorem dX8_isFree_3 : decode cX8_isFree 3 = .ok (.istore 4, 2) := by decide +kernel
theorem dX8_isFree_5 : decode cX8_isFree 5 = .ok (.iload 4, 2) := by decide +kernel
theorem dX8_isFree_7 : decode cX8_isFree 7 = .ok (.bipush 64, 2) := by decide +kernel
theorem dX8_isFree_9 : decode cX8_isFree 9 = .ok (.if_icmp .ge 63, 3) := by decide +kernel
theorem dX8_isFree_12 : decode cX8_isFree 12 = .ok (.iload_n 3, 1) := by decide +kernel
theorem dX8_isFree_13 : decode cX8_isFree 13 = .ok (.ifCond .eq 59, 3) := by decide +kernel
theorem dX8_isFree_16 : decode cX8_isFree 16 = .ok (.aload_n 0, 1) := by decide +kernel
theorem dX8_isFree_17 : decode cX8_isFree 17 = .ok (.getfield 7, 3) := by decide +kernel
theorem dX8_isFree_20 : decode cX8_isFree 20 = .ok (.iconst 0, 1) := by decide +kernel
theorem dX8_isFree_21 : decode cX8_isFree 21 = .ok (.iload 4, 2) := by decide +kernel
theorem dX8_isFree_23 : decode cX8_isFree 23 = .ok (.iadd, 1) := by decide +kernel
theorem dX8_isFree_24 : decode cX8_isFree 24 = .ok (.iaload, 1) := by decide +kernel
theorem dX8_isFree_25 : decode cX8_isFree 25 = .ok (.invokestatic 59, 3) := by decide +kernel
theorem dX8_isFree_28 : decode cX8_isFree 28 = .ok (.ifCond .eq 13, 3) := by decide +kernel
theorem dX8_isFree_31 : decode cX8_isFree 31 = .ok (.iload_n 1, 1) := by decide +kernel
theorem dX8_isFree_32 : decode cX8_isFree 32 = .ok (.iload_n 2, 1) := by decide +kernel
theorem dX8_isFree_33 : decode cX8_isFree 33 = .ok (.iload 4, 2) := by decide +kernel
theorem dX8_isFree_35 : decode cX8_isFree 35 = .ok (.invokestatic 74, 3) := by decide +kernel
theorem dX8_isFree_38 : decode cX8_isFree 38 = .ok (.ifCond .ne 26, 3) := by decide +kernel
theorem dX8_isFree_41 : decode cX8_isFree 41 = .ok (.aload_n 0, 1) := by decide +kernel
theorem dX8_isFree_42 : decode cX8_isFree 42 = .ok (.iload_n 1, 1) := by decide +kernel
theorem dX8_isFree_43 : decode cX8_isFree 43 = .ok (.iload_n 2, 1) := by decide +kernel
theorem dX8_isFree_44 : decode cX8_isFree 44 = .ok (.iload 4, 2) := by decide +kernel
theorem dX8_isFree_46 : decode cX8_isFree 46 = .ok (.bipush 8, 2) := by decide +kernel
theorem dX8_isFree_48 : decode cX8_isFree 48 = .ok (.idiv, 1) := by decide +kernel
theorem dX8_isFree_49 : decode cX8_isFree 49 = .ok (.iload 4, 2) := by decide +kernel
theorem dX8_isFree_51 : decode cX8_isFree 51 = .ok (.bipush 8, 2) := by decide +kernel
theorem dX8_isFree_53 : decode cX8_isFree 53 = .ok (.irem, 1) := by decide +kernel
theorem dX8_isFree_54 : decode cX8_isFree 54 = .ok (.invokevirtual 77, 3) := by decide +kernel
theorem dX8_isFree_57 : decode cX8_isFree 57 = .ok (.ifCond .ne 7, 3) := by decide +kernel
theorem dX8_isFree_60 : decode cX8_isFree 60 = .ok (.iconst 1, 1) := by decide +kernel
theorem dX8_isFree_61 : decode cX8_isFree 61 = .ok (.goto 4, 3) := by decide +kernel
theorem dX8_isFree_64 : decode cX8_isFree 64 = .ok (.iconst 0, 1) := by decide +kernel
theorem dX8_isFree_65 : decode cX8_isFree 65 = .ok (.istore_n 3, 1) := by decide +kernel
theorem dX8_isFree_66 : decode cX8_isFree 66 = .ok (.iinc 4 1, 3) := by decide +kernel
theorem dX8_isFree_69 : decode cX8_isFree 69 = .ok (.goto (-64), 3) := by decide +kernel
theorem dX8_isFree_72 : decode cX8_isFree 72 = .ok (.iload_n 3, 1) := by decide +kernel
theorem dX8_isFree_73 : decode cX8_isFree 73 = .ok (.ireturn, 1) := by decide +kernel
set_option maxRecDepth 20000 in
theorem ggX8_given_X8_isFree : GoodIn wsX8_given wsX8_isFree := goodIn_r _ [6, 1, 7, 8, 5, 9, 10, 11, 12, 13, 14, 15, 16, 17, 18, 19, 20, 21, 22, 23, 24, 25, 26, 27, 28, 29, 30, 31, 32, 33, 34, 35, 39, 40, 41, 42, 43, 44, 45, 46, 47, 48, 49] (by decide +kernel) (by decide +kernel)
set_option maxRecDepth 20000 in
theorem gX8_given_X8_isFree : GoodIn wsX8_given (wsV RX8 81 RX8 yX8_isFree wsX8_isFree) := goodIn_app (goodIn_of _ (by decide +kernel)) ggX8_given_X8_isFree
set_option maxRecDepth 20000 in
theorem ggX8_given_X8_strengthAt : GoodIn wsX8_given wsX8_strengthAt := goodIn_r _ [38] (by decide +kernel) (by decide +kernel)
set_option maxRecDepth 20000 in
theorem gX8_given_X8_strengthAt : GoodIn wsX8_given (va_wsS RX8 84 yX8_strengthAt wsX8_strengthAt) := goodIn_app (goodIn_of _ (by decide +kernel)) ggX8_given_X8_strengthAt
theorem dX8_given_0 : decode cX8_given 0 = .ok (.aload_n 0, 1) := by decide +kernel
theorem dX8_given_1 : decode cX8_given 1 = .ok (.getfield 7, 3) := by decide +kernel
theorem dX8_given_4 : decode cX8_given 4 = .ok (.sipush 129, 3) := by decide +kernel
theorem dX8_given_7 : decode cX8_given 7 = .ok (.iload_n 1, 1) := by decide +kernel
theorem dX8_given_8 : decode cX8_given 8 = .ok (.iadd, 1) := by decide +kernel
theorem dX8_given_9 : decode cX8_given 9 = .ok (.iaload, 1) := by decide +kernel
theorem dX8_given_10 : decode cX8_given 10 = .ok (.istore_n 3, 1) := by decide +kernel
theorem dX8_given_11 : decode cX8_given 11 = .ok (.aload_n 0, 1) := by decide +kernel
theorem dX8_given_12 : decode cX8_given 12 = .ok (.getfield 7, 3) := by decide +kernel
theorem dX8_given_15 : decode cX8_given 15 = .ok (.sipush 141, 3) := by decide +kernel
theorem dX8_given_18 : decode cX8_given 18 = .ok (.iload_n 1, 1) := by decide +kernel
theorem dX8_given_19 : decode cX8_given 19 = .ok (.iadd, 1) := by decide +kernel
theorem dX8_given_20 : decode cX8_given 20 = .ok (.iaload, 1) := by decide +kernel
theorem dX8_given_21 : decode cX8_given 21 = .ok (.ifCond .eq 12, 3) := by decide +kernel
theorem dX8_given_24 : decode cX8_given 24 = .ok (.aload_n 0, 1) := by decide +kernel
theorem dX8_given_25 : decode cX8_given 25 = .ok (.iload_n 3, 1) := by decide +kernel
theorem dX8_given_26 : decode cX8_given 26 = .ok (.iload_n 2, 1) := by decide +kernel
theorem dX8_given_27 : decode cX8_given 27 = .ok (.invokevirtual 81, 3) := by decide +kernel
theorem dX8_given_30 : decode cX8_given 30 = .ok (.ifCond .ne 5, 3) := by decide +kernel
theorem dX8_given_33 : decode cX8_given 33 = .ok (.iconst 0, 1) := by decide +kernel
theorem dX8_given_34 : decode cX8_given 34 = .ok (.ireturn, 1) := by decide +kernel
theorem dX8_given_35 : decode cX8_given 35 = .ok (.iload_n 3, 1) := by decide +kernel
theorem dX8_given_36 : decode cX8_given 36 = .ok (.iload_n 2, 1) := by decide +kernel
theorem dX8_given_37 : decode cX8_given 37 = .ok (.aload_n 0, 1) := by decide +kernel
theorem dX8_given_38 : decode cX8_given 38 = .ok (.getfield 7, 3) := by decide +kernel
theorem dX8_given_41 : decode cX8_given 41 = .ok (.sipush 135, 3) := by decide +kernel
theorem dX8_given_44 : decode cX8_given 44 = .ok (.iload_n 1, 1) := by decide +kernel
theorem dX8_given_45 : decode cX8_given 45 = .ok (.iadd, 1) := by decide +kernel
theorem dX8_given_46 : decode cX8_given 46 = .ok (.iaload, 1) := by decide +kernel
theorem dX8_given_47 : decode cX8_given 47 = .ok (.invokestatic 84, 3) := by decide +kernel
theorem dX8_given_50 : decode cX8_given 50 = .ok (.ireturn, 1) := by decide +kernel
theorem dX8_strengthAt_0 : decode cX8_strengthAt 0 = .ok (.iload_n 0, 1) := by decide +kernel
theorem dX8_strengthAt_1 : decode cX8_strengthAt 1 = .ok (.bipush 8, 2) := by decide +kernel
theorem dX8_strengthAt_3 : decode cX8_strengthAt 3 = .ok (.idiv, 1) := by decide +kernel
theorem dX8_strengthAt_4 : decode cX8_strengthAt 4 = .ok (.iload_n 1, 1) := by decide +kernel
theorem dX8_strengthAt_5 : decode cX8_strengthAt 5 = .ok (.bipush 8, 2) := by decide +kernel
theorem dX8_strengthAt_7 : decode cX8_strengthAt 7 = .ok (.idiv, 1) := by decide +kernel
theorem dX8_strengthAt_8 : decode cX8_strengthAt 8 = .ok (.isub, 1) := by decide +kernel
theorem dX8_strengthAt_9 : decode cX8_strengthAt 9 = .ok (.istore_n 3, 1) := by decide +kernel
theorem dX8_strengthAt_10 : decode cX8_strengthAt 10 = .ok (.iload_n 0, 1) := by decide +kernel
theorem dX8_strengthAt_11 : decode cX8_strengthAt 11 = .ok (.bipush 8, 2) := by decide +kernel
theorem dX8_strengthAt_13 : decode cX8_strengthAt 13 = .ok (.irem, 1) := by decide +kernel
theorem dX8_strengthAt_14 : decode cX8_strengthAt 14 = .ok (.iload_n 1, 1) := by decide +kernel
theorem dX8_strengthAt_15 : decode cX8_strengthAt 15 = .ok (.bipush 8, 2) := by decide +kernel
theorem dX8_strengthAt_17 : decode cX8_strengthAt 17 = .ok (.irem, 1) := by decide +kernel
theorem dX8_strengthAt_18 : decode cX8_strengthAt 18 = .ok (.isub, 1) := by decide +kernel
theorem dX8_strengthAt_19 : decode cX8_strengthAt 19 = .ok (.istore 4, 2) := by decide +kernel
theorem dX8_strengthAt_21 : decode cX8_strengthAt 21 = .ok (.bipush 8, 2) := by decide +kernel
theorem dX8_strengthAt_23 : decode cX8_strengthAt 23 = .ok (.iload_n 2, 1) := by decide +kernel
theorem dX8_strengthAt_24 : decode cX8_strengthAt 24 = .ok (.imul, 1) := by decide +kernel
theorem dX8_strengthAt_25 : decode cX8_strengthAt 25 = .ok (.iconst 2, 1) := by decide +kernel
theorem dX8_strengthAt_26 : decode cX8_strengthAt 26 = .ok (.iload_n 3, 1) := by decide +kernel
theorem dX8_strengthAt_27 : decode cX8_strengthAt 27 = .ok (.iload_n 3, 1) := by decide +kernel
theorem dX8_strengthAt_28 : decode cX8_strengthAt 28 = .ok (.imul, 1) := by decide +kernel
theorem dX8_strengthAt_29 : decode cX8_strengthAt 29 = .ok (.iadd, 1) := by decide +kernel
theorem dX8_strengthAt_30 : decode cX8_strengthAt 30 = .ok (.iload 4, 2) := by decide +kernel
theorem dX8_strengthAt_32 : decode cX8_strengthAt 32 = .ok (.iload 4, 2) := by decide +kernel
theorem dX8_strengthAt_34 : decode cX8_strengthAt 34 = .ok (.imul, 1) := by decide +kernel
theorem dX8_strengthAt_35 : decode cX8_strengthAt 35 = .ok (.iadd, 1) := by decide +kernel
theorem dX8_strengthAt_36 : decode cX8_strengthAt 36 = .ok (.idiv, 1) := by decide +kernel
theorem dX8_strengthAt_37 : decode cX8_strengthAt 37 = .ok (.ireturn, 1) := by decide +kernel
set_option maxRecDepth 20000 in
theorem ggX8_lightAt_X8_given : GoodIn wsX8_lightAt wsX8_given := goodIn_r _ [6, 1, 7, 8, 9, 5, 10, 11, 12, 13, 14, 15, 16, 17, 18, 19, 20, 21, 22, 23, 24, 25, 26, 27, 28, 29, 30, 31, 32, 33, 34, 35, 36, 37, 38, 39, 40, 41, 42, 43, 44, 45, 46, 47, 48, 49, 50, 51, 52, 53] (by decide +kernel) (by decide +kernel)
set_option maxRecDepth 20000 in
theorem gX8_lightAt_X8_given : GoodIn wsX8_lightAt (wsV RX8 88 RX8 yX8_given wsX8_given) := goodIn_app (goodIn_of _ (by decide +kernel)) ggX8_lightAt_X8_given
theorem dX8_lightAt_0 : decode cX8_lightAt 0 = .ok (.iconst 0, 1) := by decide +kernel
theorem dX8_lightAt_1 : decode cX8_lightAt 1 = .ok (.istore_n 2, 1) := by decide +kernel
theorem dX8_lightAt_2 : decode cX8_lightAt 2 = .ok (.iconst 0, 1) := by decide +kernel
theorem dX8_lightAt_3 : decode cX8_lightAt 3 = .ok (.istore_n 3, 1) := by decide +kernel
theorem dX8_lightAt_4 : decode cX8_lightAt 4 = .ok (.iload_n 3, 1) := by decide +kernel
theorem dX8_lightAt_5 : decode cX8_lightAt 5 = .ok (.aload_n 0, 1) := by decide +kernel
theorem dX8_lightAt_6 : decode cX8_lightAt 6 = .ok (.getfield 7, 3) := by decide +kernel
theorem dX8_lightAt_9 : decode cX8_lightAt 9 = .ok (.sipush 128, 3) := by decide +kernel
theorem dX8_lightAt_12 : decode cX8_lightAt 12 = .ok (.iaload, 1) := by decide +kernel
theorem dX8_lightAt_13 : decode cX8_lightAt 13 = .ok (.if_icmp .ge 18, 3) := by decide +kernel
theorem dX8_lightAt_16 : decode cX8_lightAt 16 = .ok (.iload_n 2, 1) := by decide +kernel
theorem dX8_lightAt_17 : decode cX8_lightAt 17 = .ok (.aload_n 0, 1) := by decide +kernel
theorem dX8_lightAt_18 : decode cX8_lightAt 18 = .ok (.iload_n 3, 1) := by decide +kernel
theorem dX8_lightAt_19 : decode cX8_lightAt 19 = .ok (.iload_n 1, 1) := by decide +kernel
theorem dX8_lightAt_20 : decode cX8_lightAt 20 = .ok (.invokevirtual 88, 3) := by decide +kernel
theorem dX8_lightAt_23 : decode cX8_lightAt 23 = .ok (.iadd, 1) := by decide +kernel
theorem dX8_lightAt_24 : decode cX8_lightAt 24 = .ok (.istore_n 2, 1) := by decide +kernel
theorem dX8_lightAt_25 : decode cX8_lightAt 25 = .ok (.iinc 3 1, 3) := by decide +kernel
theorem dX8_lightAt_28 : decode cX8_lightAt 28 = .ok (.goto (-24), 3) := by decide +kernel
theorem dX8_lightAt_31 : decode cX8_lightAt 31 = .ok (.iload_n 2, 1) := by decide +kernel
theorem dX8_lightAt_32 : decode cX8_lightAt 32 = .ok (.ireturn, 1) := by decide +kernel
set_option maxRecDepth 20000 in
theorem ggX8_shine_X8_lightAt : GoodIn wsX8_shine wsX8_lightAt := goodIn_r _ [6, 7, 8, 9, 10, 5, 11, 12, 13, 14, 15, 16, 17, 18, 19, 20, 21, 22, 23, 24, 25, 26, 27, 28, 29, 30, 31, 32, 33, 34, 35, 36, 37, 38, 39, 40, 41, 42, 43, 44, 45, 46, 47, 48, 49, 50, 51, 52, 53, 54, 55, 56, 57, 58] (by decide +kernel) (by decide +kernel)
set_option maxRecDepth 20000 in
theorem gX8_shine_X8_lightAt : GoodIn wsX8_shine (wsV RX8 91 RX8 yX8_lightAt wsX8_lightAt) := goodIn_app (goodIn_of _ (by decide +kernel)) ggX8_shine_X8_lightAt
theorem dX8_shine_0 : decode cX8_shine 0 = .ok (.iconst 0, 1) := by decide +kernel
theorem dX8_shine_1 : decode cX8_shine 1 = .ok (.istore_n 1, 1) := by decide +kernel
theorem dX8_shine_2 : decode cX8_shine 2 = .ok (.iload_n 1, 1) := by decide +kernel
theorem dX8_shine_3 : decode cX8_shine 3 = .ok (.bipush 64, 2) := by decide +kernel
theorem dX8_shine_5 : decode cX8_shine 5 = .ok (.if_icmp .ge 20, 3) := by decide +kernel
theorem dX8_shine_8 : decode cX8_shine 8 = .ok (.aload_n 0, 1) := by decide +kernel
theorem dX8_shine_9 : decode cX8_shine 9 = .ok (.getfield 22, 3) := by decide +kernel
theorem dX8_shine_12 : decode cX8_shine 12 = .ok (.iload_n 1, 1) := by decide +kernel
theorem dX8_shine_13 : decode cX8_shine 13 = .ok (.aload_n 0, 1) := by decide +kernel
theorem dX8_shine_14 : decode cX8_shine 14 = .ok (.iload_n 1, 1) := by decide +kernel
theorem dX8_shine_15 : decode cX8_shine 15 = .ok (.invokevirtual 91, 3) := by decide +kernel
theorem dX8_shine_18 : decode cX8_shine 18 = .ok (.iastore, 1) := by decide +kernel
theorem dX8_shine_19 : decode cX8_shine 19 = .ok (.iinc 1 1, 3) := by decide +kernel
theorem dX8_shine_22 : decode cX8_shine 22 = .ok (.goto (-20), 3) := by decide +kernel
theorem dX8_shine_25 : decode cX8_shine 25 = .ok (.return_, 1) := by decide +kernel
set_option maxRecDepth 20000 in
theorem ggX8_litCells_X8_shine : GoodIn wsX8_litCells wsX8_shine := goodIn_r _ [7, 1, 8, 9, 10, 6, 11, 2, 12, 13, 14, 15, 16, 17, 18, 19, 20, 21, 22, 23, 24, 25, 26, 27, 28, 29, 30, 31, 32, 33, 34, 35, 36, 37, 38, 39, 40, 41, 42, 43, 44, 45, 46, 47, 48, 49, 50, 51, 52, 53, 54, 55, 56, 57, 58, 59, 60, 61, 62] (by decide +kernel) (by decide +kernel)
set_option maxRecDepth 20000 in
theorem gX8_litCells_X8_shine : GoodIn wsX8_litCells (wsV RX8 95 RX8 yX8_shine wsX8_shine) := goodIn_app (goodIn_of _ (by decide +kernel)) ggX8_litCells_X8_shine
theorem dX8_litCells_0 : decode cX8_litCells 0 = .ok (.aload_n 0, 1) := by decide +kernel
theorem dX8_litCells_1 : decode cX8_litCells 1 = .ok (.invokevirtual 95, 3) := by decide +kernel
theorem dX8_litCells_4 : decode cX8_litCells 4 = .ok (.iconst 0, 1) := by decide +kernel
theorem dX8_litCells_5 : decode cX8_litCells 5 = .ok (.istore_n 1, 1) := by decide +kernel
theorem dX8_litCells_6 : decode cX8_litCells 6 = .ok (.iconst 0, 1) := by decide +kernel
theorem dX8_litCells_7 : decode cX8_litCells 7 = .ok (.istore_n 2, 1) := by decide +kernel
theorem dX8_litCells_8 : decode cX8_litCells 8 = .ok (.iload_n 2, 1) := by decide +kernel
theorem dX8_litCells_9 : decode cX8_litCells 9 = .ok (.bipush 64, 2) := by decide +kernel
theorem dX8_litCells_11 : decode cX8_litCells 11 = .ok (.if_icmp .ge 34, 3) := by decide +kernel
theorem dX8_litCells_14 : decode cX8_litCells 14 = .ok (.iload_n 1, 1) := by decide +kernel
theorem dX8_litCells_15 : decode cX8_litCells 15 = .ok (.aload_n 0, 1) := by decide +kernel
theorem dX8_litCells_16 : decode cX8_litCells 16 = .ok (.getfield 22, 3) := by decide +kernel
theorem dX8_litCells_19 : decode cX8_litCells 19 = .ok (.iload_n 2, 1) := by decide +kernel
theorem dX8_litCells_20 : decode cX8_litCells 20 = .ok (.iaload, 1) := by decide +kernel
theorem dX8_litCells_21 : decode cX8_litCells 21 = .ok (.aload_n 0, 1) := by decide +kernel
theorem dX8_litCells_22 : decode cX8_litCells 22 = .ok (.getfield 7, 3) := by decide +kernel
theorem dX8_litCells_25 : decode cX8_litCells 25 = .ok (.sipush 149, 3) := by decide +kernel
theorem dX8_litCells_28 : decode cX8_litCells 28 = .ok (.iaload, 1) := by decide +kernel
theorem dX8_litCells_29 : decode cX8_litCells 29 = .ok (.if_icmp .lt 7, 3) := by decide +kernel
theorem dX8_litCells_32 : decode cX8_litCells 32 = .ok (.iconst 1, 1) := by decide +kernel
theorem dX8_litCells_33 : decode cX8_litCells 33 = .ok (.goto 4, 3) := by decide +kernel
theorem dX8_litCells_36 : decode cX8_litCells 36 = .ok (.iconst 0, 1) := by decide +kernel
theorem dX8_litCells_37 : decode cX8_litCells 37 = .ok (.iadd, 1) := by decide +kernel
theorem dX8_litCells_38 : decode cX8_litCells 38 = .ok (.istore_n 1, 1) := by decide +kernel
theorem dX8_litCells_39 : decode cX8_litCells 39 = .ok (.iinc 2 1, 3) := by decide +kernel
theorem dX8_litCells_42 : decode cX8_litCells 42 = .ok (.goto (-34), 3) := by decide +kernel
theorem dX8_litCells_45 : decode cX8_litCells 45 = .ok (.iload_n 1, 1) := by decide +kernel
theorem dX8_litCells_46 : decode cX8_litCells 46 = .ok (.ireturn, 1) := by decide +kernel
set_option maxRecDepth 20000 in
theorem ggX8_isNear_X8_size : GoodIn wsX8_isNear wsX8_size := goodIn_r _ [5] (by decide +kernel) (by decide +kernel)
set_option maxRecDepth 20000 in
theorem gX8_isNear_X8_size : GoodIn wsX8_isNear (va_wsS RX8 98 yX8_size wsX8_size) := goodIn_app (goodIn_of _ (by decide +kernel)) ggX8_isNear_X8_size
theorem dX8_isNear_0 : decode cX8_isNear 0 = .ok (.aload_n 0, 1) := by decide +kernel
theorem dX8_isNear_1 : decode cX8_isNear 1 = .ok (.getfield 7, 3) := by decide +kernel
theorem dX8_isNear_4 : decode cX8_isNear 4 = .ok (.sipush 147, 3) := by decide +kernel
theorem dX8_isNear_7 : decode cX8_isNear 7 = .ok (.iaload, 1) := by decide +kernel
theorem dX8_isNear_8 : decode cX8_isNear 8 = .ok (.istore_n 2, 1) := by decide +kernel
theorem dX8_isNear_9 : decode cX8_isNear 9 = .ok (.iload_n 2, 1) := by decide +kernel
theorem dX8_isNear_10 : decode cX8_isNear 10 = .ok (.bipush 8, 2) := by decide +kernel
theorem dX8_isNear_12 : decode cX8_isNear 12 = .ok (.idiv, 1) := by decide +kernel
theorem dX8_isNear_13 : decode cX8_isNear 13 = .ok (.iload_n 1, 1) := by decide +kernel
theorem dX8_isNear_14 : decode cX8_isNear 14 = .ok (.bipush 8, 2) := by decide +kernel
theorem dX8_isNear_16 : decode cX8_isNear 16 = .ok (.idiv, 1) := by decide +kernel
theorem dX8_isNear_17 : decode cX8_isNear 17 = .ok (.isub, 1) := by decide +kernel
theorem dX8_isNear_18 : decode cX8_isNear 18 = .ok (.invokestatic 98, 3) := by decide +kernel
theorem dX8_isNear_21 : decode cX8_isNear 21 = .ok (.aload_n 0, 1) := by decide +kernel
theorem dX8_isNear_22 : decode cX8_isNear 22 = .ok (.getfield 7, 3) := by decide +kernel
theorem dX8_isNear_25 : decode cX8_isNear 25 = .ok (.sipush 150, 3) := by decide +kernel
theorem dX8_isNear_28 : decode cX8_isNear 28 = .ok (.iaload, 1) := by decide +kernel
theorem dX8_isNear_29 : decode cX8_isNear 29 = .ok (.if_icmp .gt 30, 3) := by decide +kernel
theorem dX8_isNear_32 : decode cX8_isNear 32 = .ok (.iload_n 2, 1) := by decide +kernel
theorem dX8_isNear_33 : decode cX8_isNear 33 = .ok (.bipush 8, 2) := by decide +kernel
theorem dX8_isNear_35 : decode cX8_isNear 35 = .ok (.irem, 1) := by decide +kernel
theorem dX8_isNear_36 : decode cX8_isNear 36 = .ok (.iload_n 1, 1) := by decide +kernel
theorem dX8_isNear_37 : decode cX8_isNear 37 = .ok (.bipush 8, 2) := by decide +kernel
theorem dX8_isNear_39 : decode cX8_isNear 39 = .ok (.irem, 1) := by decide +kernel
theorem dX8_isNear_40 : decode cX8_isNear 40 = .ok (.isub, 1) := by decide +kernel
theorem dX8_isNear_41 : decode cX8_isNear 41 = .ok (.invokestatic 98, 3) := by decide +kernel
theorem dX8_isNear_44 : decode cX8_isNear 44 = .ok (.aload_n 0, 1) := by decide +kernel
theorem dX8_isNear_45 : decode cX8_isNear 45 = .ok (.getfield 7, 3) := by decide +kernel
theorem dX8_isNear_48 : decode cX8_isNear 48 = .ok (.sipush 150, 3) := by decide +kernel
theorem dX8_isNear_51 : decode cX8_isNear 51 = .ok (.iaload, 1) := by decide +kernel
theorem dX8_isNear_52 : decode cX8_isNear 52 = .ok (.if_icmp .gt 7, 3) := by decide +kernel
theorem dX8_isNear_55 : decode cX8_isNear 55 = .ok (.iconst 1, 1) := by decide +kernel
theorem dX8_isNear_56 : decode cX8_isNear 56 = .ok (.goto 4, 3) := by decide +kernel
theorem dX8_isNear_59 : decode cX8_isNear 59 = .ok (.iconst 0, 1) := by decide +kernel
theorem dX8_isNear_60 : decode cX8_isNear 60 = .ok (.ireturn, 1) := by decide +kernel
set_option maxRecDepth 20000 in
theorem ggX8_isSeen_X8_isNear : GoodIn wsX8_isSeen wsX8_isNear := goodIn_r _ [6, 1, 7, 8, 5, 9, 54, 55, 56, 57, 58, 59, 60, 61, 62, 63, 64] (by decide +kernel) (by decide +kernel)
set_option maxRecDepth 20000 in
theorem gX8_isSeen_X8_isNear : GoodIn wsX8_isSeen (wsV RX8 101 RX8 yX8_isNear wsX8_isNear) := goodIn_app (goodIn_of _ (by decide +kernel)) ggX8_isSeen_X8_isNear
set_option maxRecDepth 20000 in
theorem ggX8_isSeen_X8_lightAt : GoodIn wsX8_isSeen wsX8_lightAt := goodIn_r _ [13, 1, 14, 15, 16, 5, 17, 18, 19, 20, 21, 22, 23, 24, 25, 26, 27, 28, 29, 30, 31, 32, 33, 34, 35, 36, 37, 38, 39, 40, 41, 42, 43, 44, 45, 46, 47, 48, 49, 50, 51, 52, 53, 54, 55, 56, 57, 58, 59, 60, 61, 62, 63, 64] (by decide +kernel) (by decide +kernel)
set_option maxRecDepth 20000 in
theorem gX8_isSeen_X8_lightAt : GoodIn wsX8_isSeen (wsV RX8 91 RX8 yX8_lightAt wsX8_lightAt) := goodIn_app (goodIn_of _ (by decide +kernel)) ggX8_isSeen_X8_lightAt
set_option maxRecDepth 20000 in
theorem ggX8_isSeen_X8_isFree : GoodIn wsX8_isSeen wsX8_isFree := goodIn_r _ [21, 1, 22, 23, 5, 24, 25, 26, 27, 28, 29, 30, 31, 32, 33, 34, 35, 36, 37, 38, 39, 40, 41, 42, 43, 44, 45, 46, 47, 48, 49, 50, 54, 55, 56, 57, 58, 59, 60, 61, 62, 63, 64] (by decide +kernel) (by decide +kernel)
set_option maxRecDepth 20000 in
theorem gX8_isSeen_X8_isFree : GoodIn wsX8_isSeen (wsV RX8 81 RX8 yX8_isFree wsX8_isFree) := goodIn_app (goodIn_of _ (by decide +kernel)) ggX8_isSeen_X8_isFree
theorem dX8_isSeen_0 : decode cX8_isSeen 0 = .ok (.aload_n 0, 1) := by decide +kernel
theorem dX8_isSeen_1 : decode cX8_isSeen 1 = .ok (.iload_n 1, 1) := by decide +kernel
theorem dX8_isSeen_2 : decode cX8_isSeen 2 = .ok (.invokevirtual 101, 3) := by decide +kernel
theorem dX8_isSeen_5 : decode cX8_isSeen 5 = .ok (.ifCond .ne 19, 3) := by decide +kernel
theorem dX8_isSeen_8 : decode cX8_isSeen 8 = .ok (.aload_n 0, 1) := by decide +kernel
theorem dX8_isSeen_9 : decode cX8_isSeen 9 = .ok (.iload_n 1, 1) := by decide +kernel
theorem dX8_isSeen_10 : decode cX8_isSeen 10 = .ok (.invokevirtual 91, 3) := by decide +kernel
theorem dX8_isSeen_13 : decode cX8_isSeen 13 = .ok (.aload_n 0, 1) := by decide +kernel
theorem dX8_isSeen_14 : decode cX8_isSeen 14 = .ok (.getfield 7, 3) := by decide +kernel
theorem dX8_isSeen_17 : decode cX8_isSeen 17 = .ok (.sipush 149, 3) := by decide +kernel
theorem dX8_isSeen_20 : decode cX8_isSeen 20 = .ok (.iaload, 1) := by decide +kernel
theorem dX8_isSeen_21 : decode cX8_isSeen 21 = .ok (.if_icmp .lt 23, 3) := by decide +kernel
theorem dX8_isSeen_24 : decode cX8_isSeen 24 = .ok (.aload_n 0, 1) := by decide +kernel
theorem dX8_isSeen_25 : decode cX8_isSeen 25 = .ok (.aload_n 0, 1) := by decide +kernel
theorem dX8_isSeen_26 : decode cX8_isSeen 26 = .ok (.getfield 7, 3) := by decide +kernel
theorem dX8_isSeen_29 : decode cX8_isSeen 29 = .ok (.sipush 147, 3) := by decide +kernel
theorem dX8_isSeen_32 : decode cX8_isSeen 32 = .ok (.iaload, 1) := by decide +kernel
theorem dX8_isSeen_33 : decode cX8_isSeen 33 = .ok (.iload_n 1, 1) := by decide +kernel
theorem dX8_isSeen_34 : decode cX8_isSeen 34 = .ok (.invokevirtual 81, 3) := by decide +kernel
theorem dX8_isSeen_37 : decode cX8_isSeen 37 = .ok (.ifCond .eq 7, 3) := by decide +kernel
theorem dX8_isSeen_40 : decode cX8_isSeen 40 = .ok (.iconst 1, 1) := by decide +kernel
theorem dX8_isSeen_41 : decode cX8_isSeen 41 = .ok (.goto 4, 3) := by decide +kernel
theorem dX8_isSeen_44 : decode cX8_isSeen 44 = .ok (.iconst 0, 1) := by decide +kernel
theorem dX8_isSeen_45 : decode cX8_isSeen 45 = .ok (.ireturn, 1) := by decide +kernel
set_option maxRecDepth 20000 in
theorem ggX8_seenCells_X8_isSeen : GoodIn wsX8_seenCells wsX8_isSeen := goodIn_r _ [5, 6, 7, 8, 9, 4, 10, 11, 12, 13, 14, 15, 16, 17, 18, 19, 20, 21, 22, 23, 24, 25, 26, 27, 28, 29, 30, 31, 32, 33, 34, 35, 36, 37, 38, 39, 40, 41, 42, 43, 44, 45, 46, 47, 48, 49, 50, 51, 52, 53, 54, 55, 56, 57, 58, 59, 60, 61, 62, 63, 64, 65, 66, 67, 68] (by decide +kernel) (by decide +kernel)
set_option maxRecDepth 20000 in
theorem gX8_seenCells_X8_isSeen : GoodIn wsX8_seenCells (wsV RX8 104 RX8 yX8_isSeen wsX8_isSeen) := goodIn_app (goodIn_of _ (by decide +kernel)) ggX8_seenCells_X8_isSeen
theorem dX8_seenCells_0 : decode cX8_seenCells 0 = .ok (.iconst 0, 1) := by decide +kernel
theorem dX8_seenCells_1 : decode cX8_seenCells 1 = .ok (.istore_n 1, 1) := by decide +kernel
theorem dX8_seenCells_2 : decode cX8_seenCells 2 = .ok (.iconst 0, 1) := by decide +kernel
theorem dX8_seenCells_3 : decode cX8_seenCells 3 = .ok (.istore_n 2, 1) := by decide +kernel
theorem dX8_seenCells_4 : decode cX8_seenCells 4 = .ok (.iload_n 2, 1) := by decide +kernel
theorem dX8_seenCells_5 : decode cX8_seenCells 5 = .ok (.bipush 64, 2) := by decide +kernel
theorem dX8_seenCells_7 : decode cX8_seenCells 7 = .ok (.if_icmp .ge 25, 3) := by decide +kernel
theorem dX8_seenCells_10 : decode cX8_seenCells 10 = .ok (.iload_n 1, 1) := by decide +kernel
theorem dX8_seenCells_11 : decode cX8_seenCells 11 = .ok (.aload_n 0, 1) := by decide +kernel
theorem dX8_seenCells_12 : decode cX8_seenCells 12 = .ok (.iload_n 2, 1) := by decide +kernel
theorem dX8_seenCells_13 : decode cX8_seenCells 13 = .ok (.invokevirtual 104, 3) := by decide +kernel
theorem dX8_seenCells_16 : decode cX8_seenCells 16 = .ok (.ifCond .eq 7, 3) := by decide +kernel
theorem dX8_seenCells_19 : decode cX8_seenCells 19 = .ok (.iconst 1, 1) := by decide +kernel
theorem dX8_seenCells_20 : decode cX8_seenCells 20 = .ok (.goto 4, 3) := by decide +kernel
theorem dX8_seenCells_23 : decode cX8_seenCells 23 = .ok (.iconst 0, 1) := by decide +kernel
theorem dX8_seenCells_24 : decode cX8_seenCells 24 = .ok (.iadd, 1) := by decide +kernel
theorem dX8_seenCells_25 : decode cX8_seenCells 25 = .ok (.istore_n 1, 1) := by decide +kernel
theorem dX8_seenCells_26 : decode cX8_seenCells 26 = .ok (.iinc 2 1, 3) := by decide +kernel
theorem dX8_seenCells_29 : decode cX8_seenCells 29 = .ok (.goto (-25), 3) := by decide +kernel
theorem dX8_seenCells_32 : decode cX8_seenCells 32 = .ok (.iload_n 1, 1) := by decide +kernel
theorem dX8_seenCells_33 : decode cX8_seenCells 33 = .ok (.ireturn, 1) := by decide +kernel
set_option maxRecDepth 20000 in
theorem ggX8_remember_X8_isSeen : GoodIn wsX8_remember wsX8_isSeen := goodIn_r _ [6, 1, 7, 8, 9, 5, 10, 11, 12, 13, 14, 15, 16, 17, 18, 19, 20, 21, 22, 23, 24, 25, 26, 27, 28, 29, 30, 31, 32, 33, 34, 35, 36, 37, 38, 39, 40, 41, 42, 43, 44, 45, 46, 47, 48, 49, 50, 51, 52, 53, 54, 55, 56, 57, 58, 59, 60, 61, 62, 63, 64, 65, 66, 67, 68] (by decide +kernel) (by decide +kernel)
set_option maxRecDepth 20000 in
theorem gX8_remember_X8_isSeen : GoodIn wsX8_remember (wsV RX8 104 RX8 yX8_isSeen wsX8_isSeen) := goodIn_app (goodIn_of _ (by decide +kernel)) ggX8_remember_X8_isSeen
theorem dX8_remember_0 : decode cX8_remember 0 = .ok (.iconst 0, 1) := by decide +kernel
theorem dX8_remember_1 : decode cX8_remember 1 = .ok (.istore_n 1, 1) := by decide +kernel
theorem dX8_remember_2 : decode cX8_remember 2 = .ok (.iload_n 1, 1) := by decide +kernel
theorem dX8_remember_3 : decode cX8_remember 3 = .ok (.bipush 64, 2) := by decide +kernel
theorem dX8_remember_5 : decode cX8_remember 5 = .ok (.if_icmp .ge 44, 3) := by decide +kernel
theorem dX8_remember_8 : decode cX8_remember 8 = .ok (.aload_n 0, 1) := by decide +kernel
theorem dX8_remember_9 : decode cX8_remember 9 = .ok (.getfield 7, 3) := by decide +kernel
theorem dX8_remember_12 : decode cX8_remember 12 = .ok (.bipush 64, 2) := by decide +kernel
theorem dX8_remember_14 : decode cX8_remember 14 = .ok (.iload_n 1, 1) := by decide +kernel
theorem dX8_remember_15 : decode cX8_remember 15 = .ok (.iadd, 1) := by decide +kernel
theorem dX8_remember_16 : decode cX8_remember 16 = .ok (.aload_n 0, 1) := by decide +kernel
theorem dX8_remember_17 : decode cX8_remember 17 = .ok (.getfield 7, 3) := by decide +kernel
theorem dX8_remember_20 : decode cX8_remember 20 = .ok (.bipush 64, 2) := by decide +kernel
theorem dX8_remember_22 : decode cX8_remember 22 = .ok (.iload_n 1, 1) := by decide +kernel
theorem dX8_remember_23 : decode cX8_remember 23 = .ok (.iadd, 1) := by decide +kernel
theorem dX8_remember_24 : decode cX8_remember 24 = .ok (.iaload, 1) := by decide +kernel
theorem dX8_remember_25 : decode cX8_remember 25 = .ok (.iconst 1, 1) := by decide +kernel
theorem dX8_remember_26 : decode cX8_remember 26 = .ok (.if_icmp .eq 11, 3) := by decide +kernel
theorem dX8_remember_29 : decode cX8_remember 29 = .ok (.aload_n 0, 1) := by decide +kernel
theorem dX8_remember_30 : decode cX8_remember 30 = .ok (.iload_n 1, 1) := by decide +kernel
theorem dX8_remember_31 : decode cX8_remember 31 = .ok (.invokevirtual 104, 3) := by decide +kernel
theorem dX8_remember_34 : decode cX8_remember 34 = .ok (.ifCond .eq 7, 3) := by decide +kernel
theorem dX8_remember_37 : decode cX8_remember 37 = .ok (.iconst 1, 1) := by decide +kernel
theorem dX8_remember_38 : decode cX8_remember 38 = .ok (.goto 4, 3) := by decide +kernel
theorem dX8_remember_41 : decode cX8_remember 41 = .ok (.iconst 0, 1) := by decide +kernel
theorem dX8_remember_42 : decode cX8_remember 42 = .ok (.iastore, 1) := by decide +kernel
theorem dX8_remember_43 : decode cX8_remember 43 = .ok (.iinc 1 1, 3) := by decide +kernel
theorem dX8_remember_46 : decode cX8_remember 46 = .ok (.goto (-44), 3) := by decide +kernel
theorem dX8_remember_49 : decode cX8_remember 49 = .ok (.return_, 1) := by decide +kernel
theorem dX8_knownCells_0 : decode cX8_knownCells 0 = .ok (.iconst 0, 1) := by decide +kernel
theorem dX8_knownCells_1 : decode cX8_knownCells 1 = .ok (.istore_n 1, 1) := by decide +kernel
theorem dX8_knownCells_2 : decode cX8_knownCells 2 = .ok (.iconst 0, 1) := by decide +kernel
theorem dX8_knownCells_3 : decode cX8_knownCells 3 = .ok (.istore_n 2, 1) := by decide +kernel
theorem dX8_knownCells_4 : decode cX8_knownCells 4 = .ok (.iload_n 2, 1) := by decide +kernel
theorem dX8_knownCells_5 : decode cX8_knownCells 5 = .ok (.bipush 64, 2) := by decide +kernel
theorem dX8_knownCells_7 : decode cX8_knownCells 7 = .ok (.if_icmp .ge 21, 3) := by decide +kernel
theorem dX8_knownCells_10 : decode cX8_knownCells 10 = .ok (.iload_n 1, 1) := by decide +kernel
theorem dX8_knownCells_11 : decode cX8_knownCells 11 = .ok (.aload_n 0, 1) := by decide +kernel
theorem dX8_knownCells_12 : decode cX8_knownCells 12 = .ok (.getfield 7, 3) := by decide +kernel
theorem dX8_knownCells_15 : decode cX8_knownCells 15 = .ok (.bipush 64, 2) := by decide +kernel
theorem dX8_knownCells_17 : decode cX8_knownCells 17 = .ok (.iload_n 2, 1) := by decide +kernel
theorem dX8_knownCells_18 : decode cX8_knownCells 18 = .ok (.iadd, 1) := by decide +kernel
theorem dX8_knownCells_19 : decode cX8_knownCells 19 = .ok (.iaload, 1) := by decide +kernel
theorem dX8_knownCells_20 : decode cX8_knownCells 20 = .ok (.iadd, 1) := by decide +kernel
theorem dX8_knownCells_21 : decode cX8_knownCells 21 = .ok (.istore_n 1, 1) := by decide +kernel
theorem dX8_knownCells_22 : decode cX8_knownCells 22 = .ok (.iinc 2 1, 3) := by decide +kernel
theorem dX8_knownCells_25 : decode cX8_knownCells 25 = .ok (.goto (-21), 3) := by decide +kernel
theorem dX8_knownCells_28 : decode cX8_knownCells 28 = .ok (.iload_n 1, 1) := by decide +kernel
theorem dX8_knownCells_29 : decode cX8_knownCells 29 = .ok (.ireturn, 1) := by decide +kernel
set_option maxRecDepth 20000 in
theorem ggX8_next_X8_in : GoodIn wsX8_next wsX8_in := goodIn_r _ [4] (by decide +kernel) (by decide +kernel)
set_option maxRecDepth 20000 in
theorem gX8_next_X8_in : GoodIn wsX8_next (va_wsS RX8 37 yX8_in wsX8_in) := goodIn_app (goodIn_of _ (by decide +kernel)) ggX8_next_X8_in
theorem dX8_next_0 : decode cX8_next 0 = .ok (.iload_n 0, 1) := by decide +kernel
theorem dX8_next_1 : decode cX8_next 1 = .ok (.bipush 8, 2) := by decide +kernel
theorem dX8_next_3 : decode cX8_next 3 = .ok (.idiv, 1) := by decide +kernel
theorem dX8_next_4 : decode cX8_next 4 = .ok (.iload_n 1, 1) := by decide +kernel
theorem dX8_next_5 : decode cX8_next 5 = .ok (.ifCond .ne 7, 3) := by decide +kernel
theorem dX8_next_8 : decode cX8_next 8 = .ok (.iconst (-1), 1) := by decide +kernel
theorem dX8_next_9 : decode cX8_next 9 = .ok (.goto 13, 3) := by decide +kernel
theorem dX8_next_12 : decode cX8_next 12 = .ok (.iload_n 1, 1) := by decide +kernel
theorem dX8_next_13 : decode cX8_next 13 = .ok (.iconst 2, 1) := by decide +kernel
theorem dX8_next_14 : decode cX8_next 14 = .ok (.if_icmp .ne 7, 3) := by decide +kernel
theorem dX8_next_17 : decode cX8_next 17 = .ok (.iconst 1, 1) := by decide +kernel
theorem dX8_next_18 : decode cX8_next 18 = .ok (.goto 4, 3) := by decide +kernel
theorem dX8_next_21 : decode cX8_next 21 = .ok (.iconst 0, 1) := by decide +kernel
theorem dX8_next_22 : decode cX8_next 22 = .ok (.iadd, 1) := by decide +kernel
theorem dX8_next_23 : decode cX8_next 23 = .ok (.istore_n 2, 1) := by decide +kernel
theorem dX8_next_24 : decode cX8_next 24 = .ok (.iload_n 0, 1) := by decide +kernel
theorem dX8_next_25 : decode cX8_next 25 = .ok (.bipush 8, 2) := by decide +kernel
theorem dX8_next_27 : decode cX8_next 27 = .ok (.irem, 1) := by decide +kernel
theorem dX8_next_28 : decode cX8_next 28 = .ok (.iload_n 1, 1) := by decide +kernel
theorem dX8_next_29 : decode cX8_next 29 = .ok (.iconst 1, 1) := by decide +kernel
theorem dX8_next_30 : decode cX8_next 30 = .ok (.if_icmp .ne 7, 3) := by decide +kernel
theorem dX8_next_33 : decode cX8_next 33 = .ok (.iconst 1, 1) := by decide +kernel
theorem dX8_next_34 : decode cX8_next 34 = .ok (.goto 13, 3) := by decide +kernel
theorem dX8_next_37 : decode cX8_next 37 = .ok (.iload_n 1, 1) := by decide +kernel
theorem dX8_next_38 : decode cX8_next 38 = .ok (.iconst 3, 1) := by decide +kernel
theorem dX8_next_39 : decode cX8_next 39 = .ok (.if_icmp .ne 7, 3) := by decide +kernel
theorem dX8_next_42 : decode cX8_next 42 = .ok (.iconst (-1), 1) := by decide +kernel
theorem dX8_next_43 : decode cX8_next 43 = .ok (.goto 4, 3) := by decide +kernel
theorem dX8_next_46 : decode cX8_next 46 = .ok (.iconst 0, 1) := by decide +kernel
theorem dX8_next_47 : decode cX8_next 47 = .ok (.iadd, 1) := by decide +kernel
theorem dX8_next_48 : decode cX8_next 48 = .ok (.istore_n 3, 1) := by decide +kernel
theorem dX8_next_49 : decode cX8_next 49 = .ok (.iload_n 2, 1) := by decide +kernel
theorem dX8_next_50 : decode cX8_next 50 = .ok (.iconst 0, 1) := by decide +kernel
theorem dX8_next_51 : decode cX8_next 51 = .ok (.bipush 7, 2) := by decide +kernel
theorem dX8_next_53 : decode cX8_next 53 = .ok (.invokestatic 37, 3) := by decide +kernel
theorem dX8_next_56 : decode cX8_next 56 = .ok (.ifCond .eq 22, 3) := by decide +kernel
theorem dX8_next_59 : decode cX8_next 59 = .ok (.iload_n 3, 1) := by decide +kernel
theorem dX8_next_60 : decode cX8_next 60 = .ok (.iconst 0, 1) := by decide +kernel
theorem dX8_next_61 : decode cX8_next 61 = .ok (.bipush 7, 2) := by decide +kernel
theorem dX8_next_63 : decode cX8_next 63 = .ok (.invokestatic 37, 3) := by decide +kernel
theorem dX8_next_66 : decode cX8_next 66 = .ok (.ifCond .eq 12, 3) := by decide +kernel
theorem dX8_next_69 : decode cX8_next 69 = .ok (.bipush 8, 2) := by decide +kernel
theorem dX8_next_71 : decode cX8_next 71 = .ok (.iload_n 2, 1) := by decide +kernel
theorem dX8_next_72 : decode cX8_next 72 = .ok (.imul, 1) := by decide +kernel
theorem dX8_next_73 : decode cX8_next 73 = .ok (.iload_n 3, 1) := by decide +kernel
theorem dX8_next_74 : decode cX8_next 74 = .ok (.iadd, 1) := by decide +kernel
theorem dX8_next_75 : decode cX8_next 75 = .ok (.goto 5, 3) := by decide +kernel
theorem dX8_next_78 : decode cX8_next 78 = .ok (.bipush (-4), 2) := by decide +kernel
theorem dX8_next_80 : decode cX8_next 80 = .ok (.ireturn, 1) := by decide +kernel
set_option maxRecDepth 20000 in
theorem ggX8_canGo_X8_next : GoodIn wsX8_canGo wsX8_next := goodIn_r _ [5, 6, 7, 4, 8] (by decide +kernel) (by decide +kernel)
set_option maxRecDepth 20000 in
theorem gX8_canGo_X8_next : GoodIn wsX8_canGo (va_wsS RX8 107 yX8_next wsX8_next) := goodIn_app (goodIn_of _ (by decide +kernel)) ggX8_canGo_X8_next
set_option maxRecDepth 20000 in
theorem ggX8_canGo_X8_isClosed : GoodIn wsX8_canGo wsX8_isClosed := goodIn_r _ [11] (by decide +kernel) (by decide +kernel)
set_option maxRecDepth 20000 in
theorem gX8_canGo_X8_isClosed : GoodIn wsX8_canGo (va_wsS RX8 110 yX8_isClosed wsX8_isClosed) := goodIn_app (goodIn_of _ (by decide +kernel)) ggX8_canGo_X8_isClosed
theorem dX8_canGo_0 : decode cX8_canGo 0 = .ok (.iload_n 1, 1) := by decide +kernel
theorem dX8_canGo_1 : decode cX8_canGo 1 = .ok (.iload_n 2, 1) := by decide +kernel
theorem dX8_canGo_2 : decode cX8_canGo 2 = .ok (.invokestatic 107, 3) := by decide +kernel
theorem dX8_canGo_5 : decode cX8_canGo 5 = .ok (.istore_n 3, 1) := by decide +kernel
theorem dX8_canGo_6 : decode cX8_canGo 6 = .ok (.iload_n 3, 1) := by decide +kernel
theorem dX8_canGo_7 : decode cX8_canGo 7 = .ok (.bipush (-4), 2) := by decide +kernel
theorem dX8_canGo_9 : decode cX8_canGo 9 = .ok (.if_icmp .eq 21, 3) := by decide +kernel
theorem dX8_canGo_12 : decode cX8_canGo 12 = .ok (.aload_n 0, 1) := by decide +kernel
theorem dX8_canGo_13 : decode cX8_canGo 13 = .ok (.getfield 7, 3) := by decide +kernel
theorem dX8_canGo_16 : decode cX8_canGo 16 = .ok (.iconst 0, 1) := by decide +kernel
theorem dX8_canGo_17 : decode cX8_canGo 17 = .ok (.iload_n 3, 1) := by decide +kernel
theorem dX8_canGo_18 : decode cX8_canGo 18 = .ok (.iadd, 1) := by decide +kernel
theorem dX8_canGo_19 : decode cX8_canGo 19 = .ok (.iaload, 1) := by decide +kernel
theorem dX8_canGo_20 : decode cX8_canGo 20 = .ok (.invokestatic 110, 3) := by decide +kernel
theorem dX8_canGo_23 : decode cX8_canGo 23 = .ok (.ifCond .ne 7, 3) := by decide +kernel
theorem dX8_canGo_26 : decode cX8_canGo 26 = .ok (.iconst 1, 1) := by decide +kernel
theorem dX8_canGo_27 : decode cX8_canGo 27 = .ok (.goto 4, 3) := by decide +kernel
theorem dX8_canGo_30 : decode cX8_canGo 30 = .ok (.iconst 0, 1) := by decide +kernel
theorem dX8_canGo_31 : decode cX8_canGo 31 = .ok (.ireturn, 1) := by decide +kernel
set_option maxRecDepth 20000 in
theorem ggX8_go_X8_next : GoodIn wsX8_go wsX8_next := goodIn_r _ [5, 6, 7, 4, 8] (by decide +kernel) (by decide +kernel)
set_option maxRecDepth 20000 in
theorem gX8_go_X8_next : GoodIn wsX8_go (va_wsS RX8 107 yX8_next wsX8_next) := goodIn_app (goodIn_of _ (by decide +kernel)) ggX8_go_X8_next
set_option maxRecDepth 20000 in
theorem ggX8_go_X8_remember : GoodIn wsX8_go wsX8_remember := goodIn_r _ [12, 1, 13, 14, 15, 4, 16, 17, 18, 19, 20, 21, 22, 23, 24, 25, 26, 27, 28, 29, 30, 31, 32, 33, 34, 35, 36, 37, 38, 39, 40, 41, 42, 43, 44, 6, 7, 8, 45, 46, 47, 48, 49, 50, 51, 52, 53, 54, 55, 56, 57, 58, 59, 60, 61, 62, 63, 64, 65, 66, 67, 68, 69, 70, 71, 72, 73, 74, 75] (by decide +kernel) (by decide +kernel)
set_option maxRecDepth 20000 in
theorem gX8_go_X8_remember : GoodIn wsX8_go (wsV RX8 34 RX8 yX8_remember wsX8_remember) := goodIn_app (goodIn_of _ (by decide +kernel)) ggX8_go_X8_remember
theorem dX8_go_0 : decode cX8_go 0 = .ok (.aload_n 0, 1) := by decide +kernel
theorem dX8_go_1 : decode cX8_go 1 = .ok (.getfield 7, 3) := by decide +kernel
theorem dX8_go_4 : decode cX8_go 4 = .ok (.sipush 147, 3) := by decide +kernel
theorem dX8_go_7 : decode cX8_go 7 = .ok (.aload_n 0, 1) := by decide +kernel
theorem dX8_go_8 : decode cX8_go 8 = .ok (.getfield 7, 3) := by decide +kernel
theorem dX8_go_11 : decode cX8_go 11 = .ok (.sipush 147, 3) := by decide +kernel
theorem dX8_go_14 : decode cX8_go 14 = .ok (.iaload, 1) := by decide +kernel
theorem dX8_go_15 : decode cX8_go 15 = .ok (.iload_n 1, 1) := by decide +kernel
theorem dX8_go_16 : decode cX8_go 16 = .ok (.invokestatic 107, 3) := by decide +kernel
theorem dX8_go_19 : decode cX8_go 19 = .ok (.iastore, 1) := by decide +kernel
theorem dX8_go_20 : decode cX8_go 20 = .ok (.aload_n 0, 1) := by decide +kernel
theorem dX8_go_21 : decode cX8_go 21 = .ok (.getfield 7, 3) := by decide +kernel
theorem dX8_go_24 : decode cX8_go 24 = .ok (.sipush 148, 3) := by decide +kernel
theorem dX8_go_27 : decode cX8_go 27 = .ok (.dup2, 1) := by decide +kernel
theorem dX8_go_28 : decode cX8_go 28 = .ok (.iaload, 1) := by decide +kernel
theorem dX8_go_29 : decode cX8_go 29 = .ok (.iconst 1, 1) := by decide +kernel
theorem dX8_go_30 : decode cX8_go 30 = .ok (.iadd, 1) := by decide +kernel
theorem dX8_go_31 : decode cX8_go 31 = .ok (.iastore, 1) := by decide +kernel
theorem dX8_go_32 : decode cX8_go 32 = .ok (.iconst 0, 1) := by decide +kernel
theorem dX8_go_33 : decode cX8_go 33 = .ok (.istore_n 2, 1) := by decide +kernel
theorem dX8_go_34 : decode cX8_go 34 = .ok (.iload_n 2, 1) := by decide +kernel
theorem dX8_go_35 : decode cX8_go 35 = .ok (.aload_n 0, 1) := by decide +kernel
theorem dX8_go_36 : decode cX8_go 36 = .ok (.getfield 7, 3) := by decide +kernel
theorem dX8_go_39 : decode cX8_go 39 = .ok (.sipush 128, 3) := by decide +kernel
theorem dX8_go_42 : decode cX8_go 42 = .ok (.iaload, 1) := by decide +kernel
theorem dX8_go_43 : decode cX8_go 43 = .ok (.if_icmp .ge 40, 3) := by decide +kernel
theorem dX8_go_46 : decode cX8_go 46 = .ok (.aload_n 0, 1) := by decide +kernel
theorem dX8_go_47 : decode cX8_go 47 = .ok (.getfield 7, 3) := by decide +kernel
theorem dX8_go_50 : decode cX8_go 50 = .ok (.sipush 141, 3) := by decide +kernel
theorem dX8_go_53 : decode cX8_go 53 = .ok (.iload_n 2, 1) := by decide +kernel
theorem dX8_go_54 : decode cX8_go 54 = .ok (.iadd, 1) := by decide +kernel
theorem dX8_go_55 : decode cX8_go 55 = .ok (.dup2, 1) := by decide +kernel
theorem dX8_go_56 : decode cX8_go 56 = .ok (.iaload, 1) := by decide +kernel
theorem dX8_go_57 : decode cX8_go 57 = .ok (.aload_n 0, 1) := by decide +kernel
theorem dX8_go_58 : decode cX8_go 58 = .ok (.getfield 7, 3) := by decide +kernel
theorem dX8_go_61 : decode cX8_go 61 = .ok (.sipush 141, 3) := by decide +kernel
theorem dX8_go_64 : decode cX8_go 64 = .ok (.iload_n 2, 1) := by decide +kernel
theorem dX8_go_65 : decode cX8_go 65 = .ok (.iadd, 1) := by decide +kernel
theorem dX8_go_66 : decode cX8_go 66 = .ok (.iaload, 1) := by decide +kernel
theorem dX8_go_67 : decode cX8_go 67 = .ok (.ifCond .le 7, 3) := by decide +kernel
theorem dX8_go_70 : decode cX8_go 70 = .ok (.iconst 1, 1) := by decide +kernel
theorem dX8_go_71 : decode cX8_go 71 = .ok (.goto 4, 3) := by decide +kernel
theorem dX8_go_74 : decode cX8_go 74 = .ok (.iconst 0, 1) := by decide +kernel
theorem dX8_go_75 : decode cX8_go 75 = .ok (.isub, 1) := by decide +kernel
theorem dX8_go_76 : decode cX8_go 76 = .ok (.iastore, 1) := by decide +kernel
theorem dX8_go_77 : decode cX8_go 77 = .ok (.iinc 2 1, 3) := by decide +kernel
theorem dX8_go_80 : decode cX8_go 80 = .ok (.goto (-46), 3) := by decide +kernel
theorem dX8_go_83 : decode cX8_go 83 = .ok (.aload_n 0, 1) := by decide +kernel
theorem dX8_go_84 : decode cX8_go 84 = .ok (.invokevirtual 34, 3) := by decide +kernel
theorem dX8_go_87 : decode cX8_go 87 = .ok (.return_, 1) := by decide +kernel
theorem dX8_lampIn_0 : decode cX8_lampIn 0 = .ok (.bipush (-4), 2) := by decide +kernel
theorem dX8_lampIn_2 : decode cX8_lampIn 2 = .ok (.istore_n 2, 1) := by decide +kernel
theorem dX8_lampIn_3 : decode cX8_lampIn 3 = .ok (.iconst 0, 1) := by decide +kernel
theorem dX8_lampIn_4 : decode cX8_lampIn 4 = .ok (.istore_n 3, 1) := by decide +kernel
theorem dX8_lampIn_5 : decode cX8_lampIn 5 = .ok (.iload_n 3, 1) := by decide +kernel
theorem dX8_lampIn_6 : decode cX8_lampIn 6 = .ok (.aload_n 0, 1) := by decide +kernel
theorem dX8_lampIn_7 : decode cX8_lampIn 7 = .ok (.getfield 7, 3) := by decide +kernel
theorem dX8_lampIn_10 : decode cX8_lampIn 10 = .ok (.sipush 128, 3) := by decide +kernel
theorem dX8_lampIn_13 : decode cX8_lampIn 13 = .ok (.iaload, 1) := by decide +kernel
theorem dX8_lampIn_14 : decode cX8_lampIn 14 = .ok (.if_icmp .ge 29, 3) := by decide +kernel
theorem dX8_lampIn_17 : decode cX8_lampIn 17 = .ok (.aload_n 0, 1) := by decide +kernel
theorem dX8_lampIn_18 : decode cX8_lampIn 18 = .ok (.getfield 7, 3) := by decide +kernel
theorem dX8_lampIn_21 : decode cX8_lampIn 21 = .ok (.sipush 129, 3) := by decide +kernel
theorem dX8_lampIn_24 : decode cX8_lampIn 24 = .ok (.iload_n 3, 1) := by decide +kernel
theorem dX8_lampIn_25 : decode cX8_lampIn 25 = .ok (.iadd, 1) := by decide +kernel
theorem dX8_lampIn_26 : decode cX8_lampIn 26 = .ok (.iaload, 1) := by decide +kernel
theorem dX8_lampIn_27 : decode cX8_lampIn 27 = .ok (.iload_n 1, 1) := by decide +kernel
theorem dX8_lampIn_28 : decode cX8_lampIn 28 = .ok (.if_icmp .ne 7, 3) := by decide +kernel
theorem dX8_lampIn_31 : decode cX8_lampIn 31 = .ok (.iload_n 3, 1) := by decide +kernel
theorem dX8_lampIn_32 : decode cX8_lampIn 32 = .ok (.goto 4, 3) := by decide +kernel
theorem dX8_lampIn_35 : decode cX8_lampIn 35 = .ok (.iload_n 2, 1) := by decide +kernel
theorem dX8_lampIn_36 : decode cX8_lampIn 36 = .ok (.istore_n 2, 1) := by decide +kernel
theorem dX8_lampIn_37 : decode cX8_lampIn 37 = .ok (.iinc 3 1, 3) := by decide +kernel
theorem dX8_lampIn_40 : decode cX8_lampIn 40 = .ok (.goto (-35), 3) := by decide +kernel
theorem dX8_lampIn_43 : decode cX8_lampIn 43 = .ok (.iload_n 2, 1) := by decide +kernel
theorem dX8_lampIn_44 : decode cX8_lampIn 44 = .ok (.ireturn, 1) := by decide +kernel
theorem dX8_removeLamp_0 : decode cX8_removeLamp 0 = .ok (.aload_n 0, 1) := by decide +kernel
theorem dX8_removeLamp_1 : decode cX8_removeLamp 1 = .ok (.getfield 7, 3) := by decide +kernel
theorem dX8_removeLamp_4 : decode cX8_removeLamp 4 = .ok (.sipush 128, 3) := by decide +kernel
theorem dX8_removeLamp_7 : decode cX8_removeLamp 7 = .ok (.dup2, 1) := by decide +kernel
theorem dX8_removeLamp_8 : decode cX8_removeLamp 8 = .ok (.iaload, 1) := by decide +kernel
theorem dX8_removeLamp_9 : decode cX8_removeLamp 9 = .ok (.iconst 1, 1) := by decide +kernel
theorem dX8_removeLamp_10 : decode cX8_removeLamp 10 = .ok (.isub, 1) := by decide +kernel
theorem dX8_removeLamp_11 : decode cX8_removeLamp 11 = .ok (.iastore, 1) := by decide +kernel
theorem dX8_removeLamp_12 : decode cX8_removeLamp 12 = .ok (.iload_n 1, 1) := by decide +kernel
theorem dX8_removeLamp_13 : decode cX8_removeLamp 13 = .ok (.istore_n 2, 1) := by decide +kernel
theorem dX8_removeLamp_14 : decode cX8_removeLamp 14 = .ok (.iload_n 2, 1) := by decide +kernel
theorem dX8_removeLamp_15 : decode cX8_removeLamp 15 = .ok (.aload_n 0, 1) := by decide +kernel
theorem dX8_removeLamp_16 : decode cX8_removeLamp 16 = .ok (.getfield 7, 3) := by decide +kernel
theorem dX8_removeLamp_19 : decode cX8_removeLamp 19 = .ok (.sipush 128, 3) := by decide +kernel
theorem dX8_removeLamp_22 : decode cX8_removeLamp 22 = .ok (.iaload, 1) := by decide +kernel
theorem dX8_removeLamp_23 : decode cX8_removeLamp 23 = .ok (.if_icmp .ge 75, 3) := by decide +kernel
theorem dX8_removeLamp_26 : decode cX8_removeLamp 26 = .ok (.aload_n 0, 1) := by decide +kernel
theorem dX8_removeLamp_27 : decode cX8_removeLamp 27 = .ok (.getfield 7, 3) := by decide +kernel
theorem dX8_removeLamp_30 : decode cX8_removeLamp 30 = .ok (.sipush 129, 3) := by decide +kernel
theorem dX8_removeLamp_33 : decode cX8_removeLamp 33 = .ok (.iload_n 2, 1) := by decide +kernel
theorem dX8_removeLamp_34 : decode cX8_removeLamp 34 = .ok (.iadd, 1) := by decide +kernel
theorem dX8_removeLamp_35 : decode cX8_removeLamp 35 = .ok (.aload_n 0, 1) := by decide +kernel
theorem dX8_removeLamp_36 : decode cX8_removeLamp 36 = .ok (.getfield 7, 3) := by decide +kernel
theorem dX8_removeLamp_39 : decode cX8_removeLamp 39 = .ok (.sipush 129, 3) := by decide +kernel
theorem dX8_removeLamp_42 : decode cX8_removeLamp 42 = .ok (.iload_n 2, 1) := by decide +kernel
theorem dX8_removeLamp_43 : decode cX8_removeLamp 43 = .ok (.iadd, 1) := by decide +kernel
theorem dX8_removeLamp_44 : decode cX8_removeLamp 44 = .ok (.iconst 1, 1) := by decide +kernel
theorem dX8_removeLamp_45 : decode cX8_removeLamp 45 = .ok (.iadd, 1) := by decide +kernel
theorem dX8_removeLamp_46 : decode cX8_removeLamp 46 = .ok (.iaload, 1) := by decide +kernel
theorem dX8_removeLamp_47 : decode cX8_removeLamp 47 = .ok (.iastore, 1) := by decide +kernel
theorem dX8_removeLamp_48 : decode cX8_removeLamp 48 = .ok (.aload_n 0, 1) := by decide +kernel
theorem dX8_removeLamp_49 : decode cX8_removeLamp 49 = .ok (.getfield 7, 3) := by decide +kernel
theorem dX8_removeLamp_52 : decode cX8_removeLamp 52 = .ok (.sipush 135, 3) := by decide +kernel
theorem dX8_removeLamp_55 : decode cX8_removeLamp 55 = .ok (.iload_n 2, 1) := by decide +kernel
theorem dX8_removeLamp_56 : decode cX8_removeLamp 56 = .ok (.iadd, 1) := by decide +kernel
theorem dX8_removeLamp_57 : decode cX8_removeLamp 57 = .ok (.aload_n 0, 1) := by decide +kernel
theorem dX8_removeLamp_58 : decode cX8_removeLamp 58 = .ok (.getfield 7, 3) := by decide +kernel
theorem dX8_removeLamp_61 : decode cX8_removeLamp 61 = .ok (.sipush 135, 3) := by decide +kernel
theorem dX8_removeLamp_64 : decode cX8_removeLamp 64 = .ok (.iload_n 2, 1) := by decide +kernel
theorem dX8_removeLamp_65 : decode cX8_removeLamp 65 = .ok (.iadd, 1) := by decide +kernel
theorem dX8_removeLamp_66 : decode cX8_removeLamp 66 = .ok (.iconst 1, 1) := by decide +kernel
theorem dX8_removeLamp_67 : decode cX8_removeLamp 67 = .ok (.iadd, 1) := by decide +kernel
theorem dX8_removeLamp_68 : decode cX8_removeLamp 68 = .ok (.iaload, 1) := by decide +kernel
theorem dX8_removeLamp_69 : decode cX8_removeLamp 69 = .ok (.iastore, 1) := by decide +kernel
theorem dX8_removeLamp_70 : decode cX8_removeLamp 70 = .ok (.aload_n 0, 1) := by decide +kernel
theorem dX8_removeLamp_71 : decode cX8_removeLamp 71 = .ok (.getfield 7, 3) := by decide +kernel
theorem dX8_removeLamp_74 : decode cX8_removeLamp 74 = .ok (.sipush 141, 3) := by decide +kernel
theorem dX8_removeLamp_77 : decode cX8_removeLamp 77 = .ok (.iload_n 2, 1) := by decide +kernel
theorem dX8_removeLamp_78 : decode cX8_removeLamp 78 = .ok (.iadd, 1) := by decide +kernel
theorem dX8_removeLamp_79 : decode cX8_removeLamp 79 = .ok (.aload_n 0, 1) := by decide +kernel
theorem dX8_removeLamp_80 : decode cX8_removeLamp 80 = .ok (.getfield 7, 3) := by decide +kernel
theorem dX8_removeLamp_83 : decode cX8_removeLamp 83 = .ok (.sipush 141, 3) := by decide +kernel
theorem dX8_removeLamp_86 : decode cX8_removeLamp 86 = .ok (.iload_n 2, 1) := by decide +kernel
theorem dX8_removeLamp_87 : decode cX8_removeLamp 87 = .ok (.iadd, 1) := by decide +kernel
theorem dX8_removeLamp_88 : decode cX8_removeLamp 88 = .ok (.iconst 1, 1) := by decide +kernel
theorem dX8_removeLamp_89 : decode cX8_removeLamp 89 = .ok (.iadd, 1) := by decide +kernel
theorem dX8_removeLamp_90 : decode cX8_removeLamp 90 = .ok (.iaload, 1) := by decide +kernel
theorem dX8_removeLamp_91 : decode cX8_removeLamp 91 = .ok (.iastore, 1) := by decide +kernel
theorem dX8_removeLamp_92 : decode cX8_removeLamp 92 = .ok (.iinc 2 1, 3) := by decide +kernel
theorem dX8_removeLamp_95 : decode cX8_removeLamp 95 = .ok (.goto (-81), 3) := by decide +kernel
theorem dX8_removeLamp_98 : decode cX8_removeLamp 98 = .ok (.aload_n 0, 1) := by decide +kernel
theorem dX8_removeLamp_99 : decode cX8_removeLamp 99 = .ok (.getfield 7, 3) := by decide +kernel
theorem dX8_removeLamp_102 : decode cX8_removeLamp 102 = .ok (.sipush 129, 3) := by decide +kernel
theorem dX8_removeLamp_105 : decode cX8_removeLamp 105 = .ok (.aload_n 0, 1) := by decide +kernel
theorem dX8_removeLamp_106 : decode cX8_removeLamp 106 = .ok (.getfield 7, 3) := by decide +kernel
theorem dX8_removeLamp_109 : decode cX8_removeLamp 109 = .ok (.sipush 128, 3) := by decide +kernel
theorem dX8_removeLamp_112 : decode cX8_removeLamp 112 = .ok (.iaload, 1) := by decide +kernel
theorem dX8_removeLamp_113 : decode cX8_removeLamp 113 = .ok (.iadd, 1) := by decide +kernel
theorem dX8_removeLamp_114 : decode cX8_removeLamp 114 = .ok (.iconst 0, 1) := by decide +kernel
theorem dX8_removeLamp_115 : decode cX8_removeLamp 115 = .ok (.iastore, 1) := by decide +kernel
theorem dX8_removeLamp_116 : decode cX8_removeLamp 116 = .ok (.aload_n 0, 1) := by decide +kernel
theorem dX8_removeLamp_117 : decode cX8_removeLamp 117 = .ok (.getfield 7, 3) := by decide +kernel
theorem dX8_removeLamp_120 : decode cX8_removeLamp 120 = .ok (.sipush 135, 3) := by decide +kernel
theorem dX8_removeLamp_123 : decode cX8_removeLamp 123 = .ok (.aload_n 0, 1) := by decide +kernel
theorem dX8_removeLamp_124 : decode cX8_removeLamp 124 = .ok (.getfield 7, 3) := by decide +kernel
theorem dX8_removeLamp_127 : decode cX8_removeLamp 127 = .ok (.sipush 128, 3) := by decide +kernel
theorem dX8_removeLamp_130 : decode cX8_removeLamp 130 = .ok (.iaload, 1) := by decide +kernel
theorem dX8_removeLamp_131 : decode cX8_removeLamp 131 = .ok (.iadd, 1) := by decide +kernel
theorem dX8_removeLamp_132 : decode cX8_removeLamp 132 = .ok (.iconst 0, 1) := by decide +kernel
theorem dX8_removeLamp_133 : decode cX8_removeLamp 133 = .ok (.iastore, 1) := by decide +kernel
theorem dX8_removeLamp_134 : decode cX8_removeLamp 134 = .ok (.aload_n 0, 1) := by decide +kernel
theorem dX8_removeLamp_135 : decode cX8_removeLamp 135 = .ok (.getfield 7, 3) := by decide +kernel
theorem dX8_removeLamp_138 : decode cX8_removeLamp 138 = .ok (.sipush 141, 3) := by decide +kernel
theorem dX8_removeLamp_141 : decode cX8_removeLamp 141 = .ok (.aload_n 0, 1) := by decide +kernel
theorem dX8_removeLamp_142 : decode cX8_removeLamp 142 = .ok (.getfield 7, 3) := by decide +kernel
theorem dX8_removeLamp_145 : decode cX8_removeLamp 145 = .ok (.sipush 128, 3) := by decide +kernel
theorem dX8_removeLamp_148 : decode cX8_removeLamp 148 = .ok (.iaload, 1) := by decide +kernel
theorem dX8_removeLamp_149 : decode cX8_removeLamp 149 = .ok (.iadd, 1) := by decide +kernel
theorem dX8_removeLamp_150 : decode cX8_removeLamp 150 = .ok (.iconst 0, 1) := by decide +kernel
theorem dX8_removeLamp_151 : decode cX8_removeLamp 151 = .ok (.iastore, 1) := by decide +kernel
theorem dX8_removeLamp_152 : decode cX8_removeLamp 152 = .ok (.return_, 1) := by decide +kernel
set_option maxRecDepth 20000 in
theorem ggX8_lay_X8_isDark : GoodIn wsX8_lay wsX8_isDark := goodIn_r _ [5] (by decide +kernel) (by decide +kernel)
set_option maxRecDepth 20000 in
theorem gX8_lay_X8_isDark : GoodIn wsX8_lay (va_wsS RX8 59 yX8_isDark wsX8_isDark) := goodIn_app (goodIn_of _ (by decide +kernel)) ggX8_lay_X8_isDark
set_option maxRecDepth 20000 in
theorem ggX8_lay_X8_lampIn : GoodIn wsX8_lay wsX8_lampIn := goodIn_r _ [9, 1, 14, 15, 16, 17, 18, 19, 20, 21, 22, 23, 24] (by decide +kernel) (by decide +kernel)
set_option maxRecDepth 20000 in
theorem gX8_lay_X8_lampIn : GoodIn wsX8_lay (wsV RX8 113 RX8 yX8_lampIn wsX8_lampIn) := goodIn_app (goodIn_of _ (by decide +kernel)) ggX8_lay_X8_lampIn
set_option maxRecDepth 20000 in
theorem ggX8_lay_X8_removeLamp : GoodIn wsX8_lay wsX8_removeLamp := goodIn_r _ [13, 1, 14, 15, 16, 17, 18, 19, 20, 21, 22, 23, 24] (by decide +kernel) (by decide +kernel)
set_option maxRecDepth 20000 in
theorem gX8_lay_X8_removeLamp : GoodIn wsX8_lay (wsV RX8 116 RX8 yX8_removeLamp wsX8_removeLamp) := goodIn_app (goodIn_of _ (by decide +kernel)) ggX8_lay_X8_removeLamp
theorem dX8_lay_0 : decode cX8_lay 0 = .ok (.aload_n 0, 1) := by decide +kernel
theorem dX8_lay_1 : decode cX8_lay 1 = .ok (.getfield 7, 3) := by decide +kernel
theorem dX8_lay_4 : decode cX8_lay 4 = .ok (.iconst 0, 1) := by decide +kernel
theorem dX8_lay_5 : decode cX8_lay 5 = .ok (.iload_n 1, 1) := by decide +kernel
theorem dX8_lay_6 : decode cX8_lay 6 = .ok (.iadd, 1) := by decide +kernel
theorem dX8_lay_7 : decode cX8_lay 7 = .ok (.iload_n 2, 1) := by decide +kernel
theorem dX8_lay_8 : decode cX8_lay 8 = .ok (.iastore, 1) := by decide +kernel
theorem dX8_lay_9 : decode cX8_lay 9 = .ok (.iload_n 2, 1) := by decide +kernel
theorem dX8_lay_10 : decode cX8_lay 10 = .ok (.invokestatic 59, 3) := by decide +kernel
theorem dX8_lay_13 : decode cX8_lay 13 = .ok (.ifCond .eq 22, 3) := by decide +kernel
theorem dX8_lay_16 : decode cX8_lay 16 = .ok (.aload_n 0, 1) := by decide +kernel
theorem dX8_lay_17 : decode cX8_lay 17 = .ok (.iload_n 1, 1) := by decide +kernel
theorem dX8_lay_18 : decode cX8_lay 18 = .ok (.invokevirtual 113, 3) := by decide +kernel
theorem dX8_lay_21 : decode cX8_lay 21 = .ok (.bipush (-4), 2) := by decide +kernel
theorem dX8_lay_23 : decode cX8_lay 23 = .ok (.if_icmp .eq 12, 3) := by decide +kernel
theorem dX8_lay_26 : decode cX8_lay 26 = .ok (.aload_n 0, 1) := by decide +kernel
theorem dX8_lay_27 : decode cX8_lay 27 = .ok (.aload_n 0, 1) := by decide +kernel
theorem dX8_lay_28 : decode cX8_lay 28 = .ok (.iload_n 1, 1) := by decide +kernel
theorem dX8_lay_29 : decode cX8_lay 29 = .ok (.invokevirtual 113, 3) := by decide +kernel
theorem dX8_lay_32 : decode cX8_lay 32 = .ok (.invokevirtual 116, 3) := by decide +kernel
theorem dX8_lay_35 : decode cX8_lay 35 = .ok (.return_, 1) := by decide +kernel
set_option maxRecDepth 20000 in
theorem ggX8_mayPut_X8_isClosed : GoodIn wsX8_mayPut wsX8_isClosed := goodIn_r _ [5] (by decide +kernel) (by decide +kernel)
set_option maxRecDepth 20000 in
theorem gX8_mayPut_X8_isClosed : GoodIn wsX8_mayPut (va_wsS RX8 110 yX8_isClosed wsX8_isClosed) := goodIn_app (goodIn_of _ (by decide +kernel)) ggX8_mayPut_X8_isClosed
theorem dX8_mayPut_0 : decode cX8_mayPut 0 = .ok (.iload_n 1, 1) := by decide +kernel
theorem dX8_mayPut_1 : decode cX8_mayPut 1 = .ok (.aload_n 0, 1) := by decide +kernel
theorem dX8_mayPut_2 : decode cX8_mayPut 2 = .ok (.getfield 7, 3) := by decide +kernel
theorem dX8_mayPut_5 : decode cX8_mayPut 5 = .ok (.sipush 147, 3) := by decide +kernel
theorem dX8_mayPut_8 : decode cX8_mayPut 8 = .ok (.iaload, 1) := by decide +kernel
theorem dX8_mayPut_9 : decode cX8_mayPut 9 = .ok (.if_icmp .ne 10, 3) := by decide +kernel
theorem dX8_mayPut_12 : decode cX8_mayPut 12 = .ok (.iload_n 2, 1) := by decide +kernel
theorem dX8_mayPut_13 : decode cX8_mayPut 13 = .ok (.invokestatic 110, 3) := by decide +kernel
theorem dX8_mayPut_16 : decode cX8_mayPut 16 = .ok (.ifCond .ne 7, 3) := by decide +kernel
theorem dX8_mayPut_19 : decode cX8_mayPut 19 = .ok (.iconst 1, 1) := by decide +kernel
theorem dX8_mayPut_20 : decode cX8_mayPut 20 = .ok (.goto 4, 3) := by decide +kernel
theorem dX8_mayPut_23 : decode cX8_mayPut 23 = .ok (.iconst 0, 1) := by decide +kernel
theorem dX8_mayPut_24 : decode cX8_mayPut 24 = .ok (.ireturn, 1) := by decide +kernel
set_option maxRecDepth 20000 in
theorem ggX8_put_X8_isCell : GoodIn wsX8_put wsX8_isCell := goodIn_r _ [5, 6, 7, 4, 8] (by decide +kernel) (by decide +kernel)
set_option maxRecDepth 20000 in
theorem gX8_put_X8_isCell : GoodIn wsX8_put (va_wsS RX8 120 yX8_isCell wsX8_isCell) := goodIn_app (goodIn_of _ (by decide +kernel)) ggX8_put_X8_isCell
set_option maxRecDepth 20000 in
theorem ggX8_put_X8_in : GoodIn wsX8_put wsX8_in := goodIn_r _ [8] (by decide +kernel) (by decide +kernel)
set_option maxRecDepth 20000 in
theorem gX8_put_X8_in : GoodIn wsX8_put (va_wsS RX8 37 yX8_in wsX8_in) := goodIn_app (goodIn_of _ (by decide +kernel)) ggX8_put_X8_in
set_option maxRecDepth 20000 in
theorem ggX8_put_X8_mayPut : GoodIn wsX8_put wsX8_mayPut := goodIn_r _ [12, 1, 13, 14, 4, 15, 90, 91, 92, 93, 94, 95, 96, 97, 98, 99, 100] (by decide +kernel) (by decide +kernel)
set_option maxRecDepth 20000 in
theorem gX8_put_X8_mayPut : GoodIn wsX8_put (wsV RX8 123 RX8 yX8_mayPut wsX8_mayPut) := goodIn_app (goodIn_of _ (by decide +kernel)) ggX8_put_X8_mayPut
set_option maxRecDepth 20000 in
theorem ggX8_put_X8_record : GoodIn wsX8_put wsX8_record := goodIn_r _ [19, 20, 21, 1, 90, 91, 92, 93, 94, 95, 96, 97, 98, 99, 100] (by decide +kernel) (by decide +kernel)
set_option maxRecDepth 20000 in
theorem gX8_put_X8_record : GoodIn wsX8_put (wsV RX8 49 RX8 yX8_record wsX8_record) := goodIn_app (goodIn_of _ (by decide +kernel)) ggX8_put_X8_record
set_option maxRecDepth 20000 in
theorem ggX8_put_X8_lay : GoodIn wsX8_put wsX8_lay := goodIn_r _ [25, 1, 26, 27, 4, 28, 29, 30, 31, 32, 33, 34, 35, 36, 90, 91, 92, 93, 94, 95, 96, 97, 98, 99, 100] (by decide +kernel) (by decide +kernel)
set_option maxRecDepth 20000 in
theorem gX8_put_X8_lay : GoodIn wsX8_put (wsV RX8 126 RX8 yX8_lay wsX8_lay) := goodIn_app (goodIn_of _ (by decide +kernel)) ggX8_put_X8_lay
set_option maxRecDepth 20000 in
theorem ggX8_put_X8_remember : GoodIn wsX8_put wsX8_remember := goodIn_r _ [40, 1, 41, 42, 43, 4, 44, 45, 46, 47, 48, 49, 50, 51, 52, 53, 54, 55, 56, 57, 58, 59, 60, 61, 62, 63, 26, 27, 28, 64, 65, 66, 67, 68, 69, 6, 7, 8, 70, 71, 72, 73, 74, 75, 76, 77, 78, 79, 80, 81, 82, 83, 84, 85, 86, 87, 88, 89, 90, 91, 92, 93, 94, 95, 96, 97, 98, 99, 100] (by decide +kernel) (by decide +kernel)
set_option maxRecDepth 20000 in
theorem gX8_put_X8_remember : GoodIn wsX8_put (wsV RX8 34 RX8 yX8_remember wsX8_remember) := goodIn_app (goodIn_of _ (by decide +kernel)) ggX8_put_X8_remember
theorem dX8_put_0 : decode cX8_put 0 = .ok (.iload_n 1, 1) := by decide +kernel
theorem dX8_put_1 : decode cX8_put 1 = .ok (.invokestatic 120, 3) := by decide +kernel
theorem dX8_put_4 : decode cX8_put 4 = .ok (.ifCond .eq 12, 3) := by decide +kernel
theorem dX8_put_7 : decode cX8_put 7 = .ok (.iload_n 2, 1) := by decide +kernel
theorem dX8_put_8 : decode cX8_put 8 = .ok (.iconst 0, 1) := by decide +kernel
theorem dX8_put_9 : decode cX8_put 9 = .ok (.iconst 3, 1) := by decide +kernel
theorem dX8_put_10 : decode cX8_put 10 = .ok (.invokestatic 37, 3) := by decide +kernel
theorem dX8_put_13 : decode cX8_put 13 = .ok (.ifCond .ne 5, 3) := by decide +kernel
theorem dX8_put_16 : decode cX8_put 16 = .ok (.iconst (-1), 1) := by decide +kernel
theorem dX8_put_17 : decode cX8_put 17 = .ok (.ireturn, 1) := by decide +kernel
theorem dX8_put_18 : decode cX8_put 18 = .ok (.aload_n 0, 1) := by decide +kernel
theorem dX8_put_19 : decode cX8_put 19 = .ok (.iload_n 1, 1) := by decide +kernel
theorem dX8_put_20 : decode cX8_put 20 = .ok (.iload_n 2, 1) := by decide +kernel
theorem dX8_put_21 : decode cX8_put 21 = .ok (.invokevirtual 123, 3) := by decide +kernel
theorem dX8_put_24 : decode cX8_put 24 = .ok (.ifCond .ne 6, 3) := by decide +kernel
theorem dX8_put_27 : decode cX8_put 27 = .ok (.bipush (-2), 2) := by decide +kernel
theorem dX8_put_29 : decode cX8_put 29 = .ok (.ireturn, 1) := by decide +kernel
theorem dX8_put_30 : decode cX8_put 30 = .ok (.aload_n 0, 1) := by decide +kernel
theorem dX8_put_31 : decode cX8_put 31 = .ok (.invokevirtual 49, 3) := by decide +kernel
theorem dX8_put_34 : decode cX8_put 34 = .ok (.aload_n 0, 1) := by decide +kernel
theorem dX8_put_35 : decode cX8_put 35 = .ok (.getfield 7, 3) := by decide +kernel
theorem dX8_put_38 : decode cX8_put 38 = .ok (.iconst 0, 1) := by decide +kernel
theorem dX8_put_39 : decode cX8_put 39 = .ok (.iload_n 1, 1) := by decide +kernel
theorem dX8_put_40 : decode cX8_put 40 = .ok (.iadd, 1) := by decide +kernel
theorem dX8_put_41 : decode cX8_put 41 = .ok (.iaload, 1) := by decide +kernel
theorem dX8_put_42 : decode cX8_put 42 = .ok (.istore_n 3, 1) := by decide +kernel
theorem dX8_put_43 : decode cX8_put 43 = .ok (.aload_n 0, 1) := by decide +kernel
theorem dX8_put_44 : decode cX8_put 44 = .ok (.iload_n 1, 1) := by decide +kernel
theorem dX8_put_45 : decode cX8_put 45 = .ok (.iload_n 2, 1) := by decide +kernel
theorem dX8_put_46 : decode cX8_put 46 = .ok (.invokevirtual 126, 3) := by decide +kernel
theorem dX8_put_49 : decode cX8_put 49 = .ok (.aload_n 0, 1) := by decide +kernel
theorem dX8_put_50 : decode cX8_put 50 = .ok (.invokevirtual 34, 3) := by decide +kernel
theorem dX8_put_53 : decode cX8_put 53 = .ok (.iload_n 3, 1) := by decide +kernel
theorem dX8_put_54 : decode cX8_put 54 = .ok (.ireturn, 1) := by decide +kernel
set_option maxRecDepth 20000 in
theorem ggX8_mayShine_X8_isDark : GoodIn wsX8_mayShine wsX8_isDark := goodIn_r _ [5] (by decide +kernel) (by decide +kernel)
set_option maxRecDepth 20000 in
theorem gX8_mayShine_X8_isDark : GoodIn wsX8_mayShine (va_wsS RX8 59 yX8_isDark wsX8_isDark) := goodIn_app (goodIn_of _ (by decide +kernel)) ggX8_mayShine_X8_isDark
set_option maxRecDepth 20000 in
theorem ggX8_mayShine_X8_lampIn : GoodIn wsX8_mayShine wsX8_lampIn := goodIn_r _ [9, 1, 10, 11, 12, 13, 14, 15, 16, 17, 18, 19, 20] (by decide +kernel) (by decide +kernel)
set_option maxRecDepth 20000 in
theorem gX8_mayShine_X8_lampIn : GoodIn wsX8_mayShine (wsV RX8 113 RX8 yX8_lampIn wsX8_lampIn) := goodIn_app (goodIn_of _ (by decide +kernel)) ggX8_mayShine_X8_lampIn
theorem dX8_mayShine_0 : decode cX8_mayShine 0 = .ok (.aload_n 0, 1) := by decide +kernel
theorem dX8_mayShine_1 : decode cX8_mayShine 1 = .ok (.getfield 7, 3) := by decide +kernel
theorem dX8_mayShine_4 : decode cX8_mayShine 4 = .ok (.iconst 0, 1) := by decide +kernel
theorem dX8_mayShine_5 : decode cX8_mayShine 5 = .ok (.iload_n 1, 1) := by decide +kernel
theorem dX8_mayShine_6 : decode cX8_mayShine 6 = .ok (.iadd, 1) := by decide +kernel
theorem dX8_mayShine_7 : decode cX8_mayShine 7 = .ok (.iaload, 1) := by decide +kernel
theorem dX8_mayShine_8 : decode cX8_mayShine 8 = .ok (.invokestatic 59, 3) := by decide +kernel
theorem dX8_mayShine_11 : decode cX8_mayShine 11 = .ok (.ifCond .ne 17, 3) := by decide +kernel
theorem dX8_mayShine_14 : decode cX8_mayShine 14 = .ok (.aload_n 0, 1) := by decide +kernel
theorem dX8_mayShine_15 : decode cX8_mayShine 15 = .ok (.iload_n 1, 1) := by decide +kernel
theorem dX8_mayShine_16 : decode cX8_mayShine 16 = .ok (.invokevirtual 113, 3) := by decide +kernel
theorem dX8_mayShine_19 : decode cX8_mayShine 19 = .ok (.bipush (-4), 2) := by decide +kernel
theorem dX8_mayShine_21 : decode cX8_mayShine 21 = .ok (.if_icmp .ne 7, 3) := by decide +kernel
theorem dX8_mayShine_24 : decode cX8_mayShine 24 = .ok (.iconst 1, 1) := by decide +kernel
theorem dX8_mayShine_25 : decode cX8_mayShine 25 = .ok (.goto 4, 3) := by decide +kernel
theorem dX8_mayShine_28 : decode cX8_mayShine 28 = .ok (.iconst 0, 1) := by decide +kernel
theorem dX8_mayShine_29 : decode cX8_mayShine 29 = .ok (.ireturn, 1) := by decide +kernel
set_option maxRecDepth 20000 in
theorem ggX8_lamp_X8_isCell : GoodIn wsX8_lamp wsX8_isCell := goodIn_r _ [5, 6, 7, 4, 8] (by decide +kernel) (by decide +kernel)
set_option maxRecDepth 20000 in
theorem gX8_lamp_X8_isCell : GoodIn wsX8_lamp (va_wsS RX8 120 yX8_isCell wsX8_isCell) := goodIn_app (goodIn_of _ (by decide +kernel)) ggX8_lamp_X8_isCell
set_option maxRecDepth 20000 in
theorem ggX8_lamp_X8_in : GoodIn wsX8_lamp wsX8_in := goodIn_r _ [8] (by decide +kernel) (by decide +kernel)
set_option maxRecDepth 20000 in
theorem gX8_lamp_X8_in : GoodIn wsX8_lamp (va_wsS RX8 37 yX8_in wsX8_in) := goodIn_app (goodIn_of _ (by decide +kernel)) ggX8_lamp_X8_in
set_option maxRecDepth 20000 in
theorem ggX8_lamp_X8_mayShine : GoodIn wsX8_lamp wsX8_mayShine := goodIn_r _ [12, 1, 13, 14, 4, 15, 16, 17, 18, 19, 79, 80, 81, 82, 83, 84, 85, 86, 87, 88, 89] (by decide +kernel) (by decide +kernel)
set_option maxRecDepth 20000 in
theorem gX8_lamp_X8_mayShine : GoodIn wsX8_lamp (wsV RX8 130 RX8 yX8_mayShine wsX8_mayShine) := goodIn_app (goodIn_of _ (by decide +kernel)) ggX8_lamp_X8_mayShine
set_option maxRecDepth 20000 in
theorem ggX8_lamp_X8_record : GoodIn wsX8_lamp wsX8_record := goodIn_r _ [23, 24, 25, 1, 79, 80, 81, 82, 83, 84, 85, 86, 87, 88, 89] (by decide +kernel) (by decide +kernel)
set_option maxRecDepth 20000 in
theorem gX8_lamp_X8_record : GoodIn wsX8_lamp (wsV RX8 49 RX8 yX8_record wsX8_record) := goodIn_app (goodIn_of _ (by decide +kernel)) ggX8_lamp_X8_record
set_option maxRecDepth 20000 in
theorem ggX8_lamp_X8_remember : GoodIn wsX8_lamp wsX8_remember := goodIn_r _ [29, 1, 30, 31, 32, 4, 33, 34, 35, 36, 37, 38, 39, 40, 41, 42, 43, 44, 45, 46, 47, 48, 49, 50, 51, 52, 13, 14, 15, 53, 54, 55, 56, 57, 58, 6, 7, 8, 59, 60, 61, 62, 63, 64, 65, 66, 67, 68, 69, 70, 71, 72, 73, 74, 75, 76, 77, 78, 79, 80, 81, 82, 83, 84, 85, 86, 87, 88, 89] (by decide +kernel) (by decide +kernel)
set_option maxRecDepth 20000 in
theorem gX8_lamp_X8_remember : GoodIn wsX8_lamp (wsV RX8 34 RX8 yX8_remember wsX8_remember) := goodIn_app (goodIn_of _ (by decide +kernel)) ggX8_lamp_X8_remember
theorem dX8_lamp_0 : decode cX8_lamp 0 = .ok (.iload_n 1, 1) := by decide +kernel
theorem dX8_lamp_1 : decode cX8_lamp 1 = .ok (.invokestatic 120, 3) := by decide +kernel
theorem dX8_lamp_4 : decode cX8_lamp 4 = .ok (.ifCond .eq 23, 3) := by decide +kernel
theorem dX8_lamp_7 : decode cX8_lamp 7 = .ok (.iload_n 2, 1) := by decide +kernel
theorem dX8_lamp_8 : decode cX8_lamp 8 = .ok (.iconst 1, 1) := by decide +kernel
theorem dX8_lamp_9 : decode cX8_lamp 9 = .ok (.bipush 9, 2) := by decide +kernel
theorem dX8_lamp_11 : decode cX8_lamp 11 = .ok (.invokestatic 37, 3) := by decide +kernel
theorem dX8_lamp_14 : decode cX8_lamp 14 = .ok (.ifCond .eq 13, 3) := by decide +kernel
theorem dX8_lamp_17 : decode cX8_lamp 17 = .ok (.iload_n 3, 1) := by decide +kernel
theorem dX8_lamp_18 : decode cX8_lamp 18 = .ok (.iconst 1, 1) := by decide +kernel
theorem dX8_lamp_19 : decode cX8_lamp 19 = .ok (.bipush 99, 2) := by decide +kernel
theorem dX8_lamp_21 : decode cX8_lamp 21 = .ok (.invokestatic 37, 3) := by decide +kernel
theorem dX8_lamp_24 : decode cX8_lamp 24 = .ok (.ifCond .ne 5, 3) := by decide +kernel
theorem dX8_lamp_27 : decode cX8_lamp 27 = .ok (.iconst (-1), 1) := by decide +kernel
theorem dX8_lamp_28 : decode cX8_lamp 28 = .ok (.ireturn, 1) := by decide +kernel
theorem dX8_lamp_29 : decode cX8_lamp 29 = .ok (.aload_n 0, 1) := by decide +kernel
theorem dX8_lamp_30 : decode cX8_lamp 30 = .ok (.iload_n 1, 1) := by decide +kernel
theorem dX8_lamp_31 : decode cX8_lamp 31 = .ok (.invokevirtual 130, 3) := by decide +kernel
theorem dX8_lamp_34 : decode cX8_lamp 34 = .ok (.ifCond .ne 6, 3) := by decide +kernel
theorem dX8_lamp_37 : decode cX8_lamp 37 = .ok (.bipush (-2), 2) := by decide +kernel
theorem dX8_lamp_39 : decode cX8_lamp 39 = .ok (.ireturn, 1) := by decide +kernel
theorem dX8_lamp_40 : decode cX8_lamp 40 = .ok (.aload_n 0, 1) := by decide +kernel
theorem dX8_lamp_41 : decode cX8_lamp 41 = .ok (.getfield 7, 3) := by decide +kernel
theorem dX8_lamp_44 : decode cX8_lamp 44 = .ok (.sipush 128, 3) := by decide +kernel
theorem dX8_lamp_47 : decode cX8_lamp 47 = .ok (.iaload, 1) := by decide +kernel
theorem dX8_lamp_48 : decode cX8_lamp 48 = .ok (.bipush 6, 2) := by decide +kernel
theorem dX8_lamp_50 : decode cX8_lamp 50 = .ok (.if_icmp .ne 6, 3) := by decide +kernel
theorem dX8_lamp_53 : decode cX8_lamp 53 = .ok (.bipush (-3), 2) := by decide +kernel
theorem dX8_lamp_55 : decode cX8_lamp 55 = .ok (.ireturn, 1) := by decide +kernel
theorem dX8_lamp_56 : decode cX8_lamp 56 = .ok (.aload_n 0, 1) := by decide +kernel
theorem dX8_lamp_57 : decode cX8_lamp 57 = .ok (.invokevirtual 49, 3) := by decide +kernel
theorem dX8_lamp_60 : decode cX8_lamp 60 = .ok (.aload_n 0, 1) := by decide +kernel
theorem dX8_lamp_61 : decode cX8_lamp 61 = .ok (.getfield 7, 3) := by decide +kernel
theorem dX8_lamp_64 : decode cX8_lamp 64 = .ok (.sipush 128, 3) := by decide +kernel
theorem dX8_lamp_67 : decode cX8_lamp 67 = .ok (.iaload, 1) := by decide +kernel
theorem dX8_lamp_68 : decode cX8_lamp 68 = .ok (.istore 4, 2) := by decide +kernel
theorem dX8_lamp_70 : decode cX8_lamp 70 = .ok (.aload_n 0, 1) := by decide +kernel
theorem dX8_lamp_71 : decode cX8_lamp 71 = .ok (.getfield 7, 3) := by decide +kernel
theorem dX8_lamp_74 : decode cX8_lamp 74 = .ok (.sipush 129, 3) := by decide +kernel
theorem dX8_lamp_77 : decode cX8_lamp 77 = .ok (.iload 4, 2) := by decide +kernel
theorem dX8_lamp_79 : decode cX8_lamp 79 = .ok (.iadd, 1) := by decide +kernel
theorem dX8_lamp_80 : decode cX8_lamp 80 = .ok (.iload_n 1, 1) := by decide +kernel
theorem dX8_lamp_81 : decode cX8_lamp 81 = .ok (.iastore, 1) := by decide +kernel
theorem dX8_lamp_82 : decode cX8_lamp 82 = .ok (.aload_n 0, 1) := by decide +kernel
theorem dX8_lamp_83 : decode cX8_lamp 83 = .ok (.getfield 7, 3) := by decide +kernel
theorem dX8_lamp_86 : decode cX8_lamp 86 = .ok (.sipush 135, 3) := by decide +kernel
theorem dX8_lamp_89 : decode cX8_lamp 89 = .ok (.iload 4, 2) := by decide +kernel
theorem dX8_lamp_91 : decode cX8_lamp 91 = .ok (.iadd, 1) := by decide +kernel
theorem dX8_lamp_92 : decode cX8_lamp 92 = .ok (.iload_n 2, 1) := by decide +kernel
theorem dX8_lamp_93 : decode cX8_lamp 93 = .ok (.iastore, 1) := by decide +kernel
theorem dX8_lamp_94 : decode cX8_lamp 94 = .ok (.aload_n 0, 1) := by decide +kernel
theorem dX8_lamp_95 : decode cX8_lamp 95 = .ok (.getfield 7, 3) := by decide +kernel
theorem dX8_lamp_98 : decode cX8_lamp 98 = .ok (.sipush 141, 3) := by decide +kernel
theorem dX8_lamp_101 : decode cX8_lamp 101 = .ok (.iload 4, 2) := by decide +kernel
theorem dX8_lamp_103 : decode cX8_lamp 103 = .ok (.iadd, 1) := by decide +kernel
theorem dX8_lamp_104 : decode cX8_lamp 104 = .ok (.iload_n 3, 1) := by decide +kernel
theorem dX8_lamp_105 : decode cX8_lamp 105 = .ok (.iastore, 1) := by decide +kernel
theorem dX8_lamp_106 : decode cX8_lamp 106 = .ok (.aload_n 0, 1) := by decide +kernel
theorem dX8_lamp_107 : decode cX8_lamp 107 = .ok (.getfield 7, 3) := by decide +kernel
theorem dX8_lamp_110 : decode cX8_lamp 110 = .ok (.sipush 128, 3) := by decide +kernel
theorem dX8_lamp_113 : decode cX8_lamp 113 = .ok (.dup2, 1) := by decide +kernel
theorem dX8_lamp_114 : decode cX8_lamp 114 = .ok (.iaload, 1) := by decide +kernel
theorem dX8_lamp_115 : decode cX8_lamp 115 = .ok (.iconst 1, 1) := by decide +kernel
theorem dX8_lamp_116 : decode cX8_lamp 116 = .ok (.iadd, 1) := by decide +kernel
theorem dX8_lamp_117 : decode cX8_lamp 117 = .ok (.iastore, 1) := by decide +kernel
theorem dX8_lamp_118 : decode cX8_lamp 118 = .ok (.aload_n 0, 1) := by decide +kernel
theorem dX8_lamp_119 : decode cX8_lamp 119 = .ok (.invokevirtual 34, 3) := by decide +kernel
theorem dX8_lamp_122 : decode cX8_lamp 122 = .ok (.iload 4, 2) := by decide +kernel
theorem dX8_lamp_124 : decode cX8_lamp 124 = .ok (.ireturn, 1) := by decide +kernel
set_option maxRecDepth 20000 in
theorem ggX8_takeLamp_X8_isLamp : GoodIn wsX8_takeLamp wsX8_isLamp := goodIn_r _ [6, 1, 7, 8, 5, 9, 76, 77, 78, 79, 80, 81, 82, 83, 84, 85, 86] (by decide +kernel) (by decide +kernel)
set_option maxRecDepth 20000 in
theorem gX8_takeLamp_X8_isLamp : GoodIn wsX8_takeLamp (wsV RX8 133 RX8 yX8_isLamp wsX8_isLamp) := goodIn_app (goodIn_of _ (by decide +kernel)) ggX8_takeLamp_X8_isLamp
set_option maxRecDepth 20000 in
theorem ggX8_takeLamp_X8_record : GoodIn wsX8_takeLamp wsX8_record := goodIn_r _ [13, 14, 15, 1, 76, 77, 78, 79, 80, 81, 82, 83, 84, 85, 86] (by decide +kernel) (by decide +kernel)
set_option maxRecDepth 20000 in
theorem gX8_takeLamp_X8_record : GoodIn wsX8_takeLamp (wsV RX8 49 RX8 yX8_record wsX8_record) := goodIn_app (goodIn_of _ (by decide +kernel)) ggX8_takeLamp_X8_record
set_option maxRecDepth 20000 in
theorem ggX8_takeLamp_X8_removeLamp : GoodIn wsX8_takeLamp wsX8_removeLamp := goodIn_r _ [19, 1, 76, 77, 78, 79, 80, 81, 82, 83, 84, 85, 86] (by decide +kernel) (by decide +kernel)
set_option maxRecDepth 20000 in
theorem gX8_takeLamp_X8_removeLamp : GoodIn wsX8_takeLamp (wsV RX8 116 RX8 yX8_removeLamp wsX8_removeLamp) := goodIn_app (goodIn_of _ (by decide +kernel)) ggX8_takeLamp_X8_removeLamp
set_option maxRecDepth 20000 in
theorem ggX8_takeLamp_X8_remember : GoodIn wsX8_takeLamp wsX8_remember := goodIn_r _ [23, 1, 24, 25, 26, 5, 27, 28, 29, 30, 31, 32, 33, 34, 35, 36, 37, 38, 39, 40, 41, 42, 43, 44, 45, 46, 47, 48, 49, 50, 51, 52, 53, 54, 55, 7, 8, 9, 56, 57, 58, 59, 60, 61, 62, 63, 64, 65, 66, 67, 68, 69, 70, 71, 72, 73, 74, 75, 76, 77, 78, 79, 80, 81, 82, 83, 84, 85, 86] (by decide +kernel) (by decide +kernel)
set_option maxRecDepth 20000 in
theorem gX8_takeLamp_X8_remember : GoodIn wsX8_takeLamp (wsV RX8 34 RX8 yX8_remember wsX8_remember) := goodIn_app (goodIn_of _ (by decide +kernel)) ggX8_takeLamp_X8_remember
theorem dX8_takeLamp_0 : decode cX8_takeLamp 0 = .ok (.aload_n 0, 1) := by decide +kernel
theorem dX8_takeLamp_1 : decode cX8_takeLamp 1 = .ok (.iload_n 1, 1) := by decide +kernel
theorem dX8_takeLamp_2 : decode cX8_takeLamp 2 = .ok (.invokevirtual 133, 3) := by decide +kernel
theorem dX8_takeLamp_5 : decode cX8_takeLamp 5 = .ok (.ifCond .ne 5, 3) := by decide +kernel
theorem dX8_takeLamp_8 : decode cX8_takeLamp 8 = .ok (.iconst (-1), 1) := by decide +kernel
theorem dX8_takeLamp_9 : decode cX8_takeLamp 9 = .ok (.ireturn, 1) := by decide +kernel
theorem dX8_takeLamp_10 : decode cX8_takeLamp 10 = .ok (.aload_n 0, 1) := by decide +kernel
theorem dX8_takeLamp_11 : decode cX8_takeLamp 11 = .ok (.invokevirtual 49, 3) := by decide +kernel
theorem dX8_takeLamp_14 : decode cX8_takeLamp 14 = .ok (.aload_n 0, 1) := by decide +kernel
theorem dX8_takeLamp_15 : decode cX8_takeLamp 15 = .ok (.getfield 7, 3) := by decide +kernel
theorem dX8_takeLamp_18 : decode cX8_takeLamp 18 = .ok (.sipush 129, 3) := by decide +kernel
theorem dX8_takeLamp_21 : decode cX8_takeLamp 21 = .ok (.iload_n 1, 1) := by decide +kernel
theorem dX8_takeLamp_22 : decode cX8_takeLamp 22 = .ok (.iadd, 1) := by decide +kernel
theorem dX8_takeLamp_23 : decode cX8_takeLamp 23 = .ok (.iaload, 1) := by decide +kernel
theorem dX8_takeLamp_24 : decode cX8_takeLamp 24 = .ok (.istore_n 2, 1) := by decide +kernel
theorem dX8_takeLamp_25 : decode cX8_takeLamp 25 = .ok (.aload_n 0, 1) := by decide +kernel
theorem dX8_takeLamp_26 : decode cX8_takeLamp 26 = .ok (.iload_n 1, 1) := by decide +kernel
theorem dX8_takeLamp_27 : decode cX8_takeLamp 27 = .ok (.invokevirtual 116, 3) := by decide +kernel
theorem dX8_takeLamp_30 : decode cX8_takeLamp 30 = .ok (.aload_n 0, 1) := by decide +kernel
theorem dX8_takeLamp_31 : decode cX8_takeLamp 31 = .ok (.invokevirtual 34, 3) := by decide +kernel
theorem dX8_takeLamp_34 : decode cX8_takeLamp 34 = .ok (.iload_n 2, 1) := by decide +kernel
theorem dX8_takeLamp_35 : decode cX8_takeLamp 35 = .ok (.ireturn, 1) := by decide +kernel
set_option maxRecDepth 20000 in
theorem ggX8_fill_X8_isLamp : GoodIn wsX8_fill wsX8_isLamp := goodIn_r _ [6, 1, 7, 8, 5, 9, 72, 73, 74, 75, 76, 77, 78, 79, 80, 81, 82] (by decide +kernel) (by decide +kernel)
set_option maxRecDepth 20000 in
theorem gX8_fill_X8_isLamp : GoodIn wsX8_fill (wsV RX8 133 RX8 yX8_isLamp wsX8_isLamp) := goodIn_app (goodIn_of _ (by decide +kernel)) ggX8_fill_X8_isLamp
set_option maxRecDepth 20000 in
theorem ggX8_fill_X8_in : GoodIn wsX8_fill wsX8_in := goodIn_r _ [9] (by decide +kernel) (by decide +kernel)
set_option maxRecDepth 20000 in
theorem gX8_fill_X8_in : GoodIn wsX8_fill (va_wsS RX8 37 yX8_in wsX8_in) := goodIn_app (goodIn_of _ (by decide +kernel)) ggX8_fill_X8_in
set_option maxRecDepth 20000 in
theorem ggX8_fill_X8_record : GoodIn wsX8_fill wsX8_record := goodIn_r _ [13, 14, 15, 1, 72, 73, 74, 75, 76, 77, 78, 79, 80, 81, 82] (by decide +kernel) (by decide +kernel)
set_option maxRecDepth 20000 in
theorem gX8_fill_X8_record : GoodIn wsX8_fill (wsV RX8 49 RX8 yX8_record wsX8_record) := goodIn_app (goodIn_of _ (by decide +kernel)) ggX8_fill_X8_record
set_option maxRecDepth 20000 in
theorem ggX8_fill_X8_remember : GoodIn wsX8_fill wsX8_remember := goodIn_r _ [19, 1, 20, 21, 22, 5, 23, 24, 25, 26, 27, 28, 29, 30, 31, 32, 33, 34, 35, 36, 37, 38, 39, 40, 41, 42, 43, 44, 45, 46, 47, 48, 49, 50, 51, 7, 8, 9, 52, 53, 54, 55, 56, 57, 58, 59, 60, 61, 62, 63, 64, 65, 66, 67, 68, 69, 70, 71, 72, 73, 74, 75, 76, 77, 78, 79, 80, 81, 82] (by decide +kernel) (by decide +kernel)
set_option maxRecDepth 20000 in
theorem gX8_fill_X8_remember : GoodIn wsX8_fill (wsV RX8 34 RX8 yX8_remember wsX8_remember) := goodIn_app (goodIn_of _ (by decide +kernel)) ggX8_fill_X8_remember
theorem dX8_fill_0 : decode cX8_fill 0 = .ok (.aload_n 0, 1) := by decide +kernel
theorem dX8_fill_1 : decode cX8_fill 1 = .ok (.iload_n 1, 1) := by decide +kernel
theorem dX8_fill_2 : decode cX8_fill 2 = .ok (.invokevirtual 133, 3) := by decide +kernel
theorem dX8_fill_5 : decode cX8_fill 5 = .ok (.ifCond .eq 13, 3) := by decide +kernel
theorem dX8_fill_8 : decode cX8_fill 8 = .ok (.iload_n 2, 1) := by decide +kernel
theorem dX8_fill_9 : decode cX8_fill 9 = .ok (.iconst 0, 1) := by decide +kernel
theorem dX8_fill_10 : decode cX8_fill 10 = .ok (.bipush 99, 2) := by decide +kernel
theorem dX8_fill_12 : decode cX8_fill 12 = .ok (.invokestatic 37, 3) := by decide +kernel
theorem dX8_fill_15 : decode cX8_fill 15 = .ok (.ifCond .ne 5, 3) := by decide +kernel
theorem dX8_fill_18 : decode cX8_fill 18 = .ok (.iconst (-1), 1) := by decide +kernel
theorem dX8_fill_19 : decode cX8_fill 19 = .ok (.ireturn, 1) := by decide +kernel
theorem dX8_fill_20 : decode cX8_fill 20 = .ok (.aload_n 0, 1) := by decide +kernel
theorem dX8_fill_21 : decode cX8_fill 21 = .ok (.invokevirtual 49, 3) := by decide +kernel
theorem dX8_fill_24 : decode cX8_fill 24 = .ok (.aload_n 0, 1) := by decide +kernel
theorem dX8_fill_25 : decode cX8_fill 25 = .ok (.getfield 7, 3) := by decide +kernel
theorem dX8_fill_28 : decode cX8_fill 28 = .ok (.sipush 141, 3) := by decide +kernel
theorem dX8_fill_31 : decode cX8_fill 31 = .ok (.iload_n 1, 1) := by decide +kernel
theorem dX8_fill_32 : decode cX8_fill 32 = .ok (.iadd, 1) := by decide +kernel
theorem dX8_fill_33 : decode cX8_fill 33 = .ok (.iaload, 1) := by decide +kernel
theorem dX8_fill_34 : decode cX8_fill 34 = .ok (.istore_n 3, 1) := by decide +kernel
theorem dX8_fill_35 : decode cX8_fill 35 = .ok (.aload_n 0, 1) := by decide +kernel
theorem dX8_fill_36 : decode cX8_fill 36 = .ok (.getfield 7, 3) := by decide +kernel
theorem dX8_fill_39 : decode cX8_fill 39 = .ok (.sipush 141, 3) := by decide +kernel
theorem dX8_fill_42 : decode cX8_fill 42 = .ok (.iload_n 1, 1) := by decide +kernel
theorem dX8_fill_43 : decode cX8_fill 43 = .ok (.iadd, 1) := by decide +kernel
theorem dX8_fill_44 : decode cX8_fill 44 = .ok (.iload_n 2, 1) := by decide +kernel
theorem dX8_fill_45 : decode cX8_fill 45 = .ok (.iastore, 1) := by decide +kernel
theorem dX8_fill_46 : decode cX8_fill 46 = .ok (.aload_n 0, 1) := by decide +kernel
theorem dX8_fill_47 : decode cX8_fill 47 = .ok (.invokevirtual 34, 3) := by decide +kernel
theorem dX8_fill_50 : decode cX8_fill 50 = .ok (.iload_n 3, 1) := by decide +kernel
theorem dX8_fill_51 : decode cX8_fill 51 = .ok (.ireturn, 1) := by decide +kernel
set_option maxRecDepth 20000 in
theorem ggX8_set_X8_in : GoodIn wsX8_set wsX8_in := goodIn_r _ [5] (by decide +kernel) (by decide +kernel)
set_option maxRecDepth 20000 in
theorem gX8_set_X8_in : GoodIn wsX8_set (va_wsS RX8 37 yX8_in wsX8_in) := goodIn_app (goodIn_of _ (by decide +kernel)) ggX8_set_X8_in
set_option maxRecDepth 20000 in
theorem ggX8_set_X8_record : GoodIn wsX8_set wsX8_record := goodIn_r _ [9, 10, 11, 1, 68, 69, 70, 71, 72, 73, 74, 75, 76, 77, 78] (by decide +kernel) (by decide +kernel)
set_option maxRecDepth 20000 in
theorem gX8_set_X8_record : GoodIn wsX8_set (wsV RX8 49 RX8 yX8_record wsX8_record) := goodIn_app (goodIn_of _ (by decide +kernel)) ggX8_set_X8_record
set_option maxRecDepth 20000 in
theorem ggX8_set_X8_remember : GoodIn wsX8_set wsX8_remember := goodIn_r _ [15, 1, 16, 17, 18, 4, 19, 20, 21, 22, 23, 24, 25, 26, 27, 28, 29, 30, 31, 32, 33, 34, 35, 36, 37, 38, 39, 40, 41, 42, 43, 44, 45, 46, 47, 2, 3, 5, 48, 49, 50, 51, 52, 53, 54, 55, 56, 57, 58, 59, 60, 61, 62, 63, 64, 65, 66, 67, 68, 69, 70, 71, 72, 73, 74, 75, 76, 77, 78] (by decide +kernel) (by decide +kernel)
set_option maxRecDepth 20000 in
theorem gX8_set_X8_remember : GoodIn wsX8_set (wsV RX8 34 RX8 yX8_remember wsX8_remember) := goodIn_app (goodIn_of _ (by decide +kernel)) ggX8_set_X8_remember
theorem dX8_set_0 : decode cX8_set 0 = .ok (.iload_n 1, 1) := by decide +kernel
theorem dX8_set_1 : decode cX8_set 1 = .ok (.ifCond .ne 16, 3) := by decide +kernel
theorem dX8_set_4 : decode cX8_set 4 = .ok (.iload_n 2, 1) := by decide +kernel
theorem dX8_set_5 : decode cX8_set 5 = .ok (.iconst 1, 1) := by decide +kernel
theorem dX8_set_6 : decode cX8_set 6 = .ok (.bipush 20, 2) := by decide +kernel
theorem dX8_set_8 : decode cX8_set 8 = .ok (.invokestatic 37, 3) := by decide +kernel
theorem dX8_set_11 : decode cX8_set 11 = .ok (.ifCond .eq 20, 3) := by decide +kernel
theorem dX8_set_14 : decode cX8_set 14 = .ok (.goto 19, 3) := by decide +kernel
theorem dX8_set_17 : decode cX8_set 17 = .ok (.iload_n 1, 1) := by decide +kernel
theorem dX8_set_18 : decode cX8_set 18 = .ok (.iconst 1, 1) := by decide +kernel
theorem dX8_set_19 : decode cX8_set 19 = .ok (.if_icmp .ne 12, 3) := by decide +kernel
theorem dX8_set_22 : decode cX8_set 22 = .ok (.iload_n 2, 1) := by decide +kernel
theorem dX8_set_23 : decode cX8_set 23 = .ok (.iconst 0, 1) := by decide +kernel
theorem dX8_set_24 : decode cX8_set 24 = .ok (.iconst 4, 1) := by decide +kernel
theorem dX8_set_25 : decode cX8_set 25 = .ok (.invokestatic 37, 3) := by decide +kernel
theorem dX8_set_28 : decode cX8_set 28 = .ok (.ifCond .ne 5, 3) := by decide +kernel
theorem dX8_set_31 : decode cX8_set 31 = .ok (.iconst (-1), 1) := by decide +kernel
theorem dX8_set_32 : decode cX8_set 32 = .ok (.ireturn, 1) := by decide +kernel
theorem dX8_set_33 : decode cX8_set 33 = .ok (.aload_n 0, 1) := by decide +kernel
theorem dX8_set_34 : decode cX8_set 34 = .ok (.invokevirtual 49, 3) := by decide +kernel
theorem dX8_set_37 : decode cX8_set 37 = .ok (.aload_n 0, 1) := by decide +kernel
theorem dX8_set_38 : decode cX8_set 38 = .ok (.getfield 7, 3) := by decide +kernel
theorem dX8_set_41 : decode cX8_set 41 = .ok (.sipush 149, 3) := by decide +kernel
theorem dX8_set_44 : decode cX8_set 44 = .ok (.iload_n 1, 1) := by decide +kernel
theorem dX8_set_45 : decode cX8_set 45 = .ok (.iadd, 1) := by decide +kernel
theorem dX8_set_46 : decode cX8_set 46 = .ok (.iaload, 1) := by decide +kernel
theorem dX8_set_47 : decode cX8_set 47 = .ok (.istore_n 3, 1) := by decide +kernel
theorem dX8_set_48 : decode cX8_set 48 = .ok (.aload_n 0, 1) := by decide +kernel
theorem dX8_set_49 : decode cX8_set 49 = .ok (.getfield 7, 3) := by decide +kernel
theorem dX8_set_52 : decode cX8_set 52 = .ok (.sipush 149, 3) := by decide +kernel
theorem dX8_set_55 : decode cX8_set 55 = .ok (.iload_n 1, 1) := by decide +kernel
theorem dX8_set_56 : decode cX8_set 56 = .ok (.iadd, 1) := by decide +kernel
theorem dX8_set_57 : decode cX8_set 57 = .ok (.iload_n 2, 1) := by decide +kernel
theorem dX8_set_58 : decode cX8_set 58 = .ok (.iastore, 1) := by decide +kernel
theorem dX8_set_59 : decode cX8_set 59 = .ok (.aload_n 0, 1) := by decide +kernel
theorem dX8_set_60 : decode cX8_set 60 = .ok (.invokevirtual 34, 3) := by decide +kernel
theorem dX8_set_63 : decode cX8_set 63 = .ok (.iload_n 3, 1) := by decide +kernel
theorem dX8_set_64 : decode cX8_set 64 = .ok (.ireturn, 1) := by decide +kernel
set_option maxRecDepth 20000 in
theorem ggX8_step_X8_in : GoodIn wsX8_step wsX8_in := goodIn_r _ [5] (by decide +kernel) (by decide +kernel)
set_option maxRecDepth 20000 in
theorem gX8_step_X8_in : GoodIn wsX8_step (va_wsS RX8 37 yX8_in wsX8_in) := goodIn_app (goodIn_of _ (by decide +kernel)) ggX8_step_X8_in
set_option maxRecDepth 20000 in
theorem ggX8_step_X8_canGo : GoodIn wsX8_step wsX8_canGo := goodIn_r _ [9, 1, 10, 11, 4, 12, 2, 3, 5, 13, 14, 15, 82, 83, 84, 85, 86, 87, 88, 89, 90, 91, 92] (by decide +kernel) (by decide +kernel)
set_option maxRecDepth 20000 in
theorem gX8_step_X8_canGo : GoodIn wsX8_step (wsV RX8 136 RX8 yX8_canGo wsX8_canGo) := goodIn_app (goodIn_of _ (by decide +kernel)) ggX8_step_X8_canGo
set_option maxRecDepth 20000 in
theorem ggX8_step_X8_record : GoodIn wsX8_step wsX8_record := goodIn_r _ [19, 20, 21, 1, 82, 83, 84, 85, 86, 87, 88, 89, 90, 91, 92] (by decide +kernel) (by decide +kernel)
set_option maxRecDepth 20000 in
theorem gX8_step_X8_record : GoodIn wsX8_step (wsV RX8 49 RX8 yX8_record wsX8_record) := goodIn_app (goodIn_of _ (by decide +kernel)) ggX8_step_X8_record
set_option maxRecDepth 20000 in
theorem ggX8_step_X8_go : GoodIn wsX8_step wsX8_go := goodIn_r _ [25, 1, 10, 11, 4, 12, 2, 3, 5, 26, 27, 28, 29, 30, 31, 32, 33, 34, 35, 36, 37, 38, 39, 40, 41, 42, 43, 44, 45, 46, 47, 48, 49, 50, 51, 52, 53, 54, 55, 56, 57, 58, 59, 60, 61, 62, 63, 64, 65, 66, 67, 68, 69, 70, 71, 72, 73, 74, 75, 76, 77, 78, 79, 80, 81, 82, 83, 84, 85, 86, 87, 88, 89, 90, 91, 92] (by decide +kernel) (by decide +kernel)
set_option maxRecDepth 20000 in
theorem gX8_step_X8_go : GoodIn wsX8_step (wsV RX8 139 RX8 yX8_go wsX8_go) := goodIn_app (goodIn_of _ (by decide +kernel)) ggX8_step_X8_go
theorem dX8_step_0 : decode cX8_step 0 = .ok (.iload_n 1, 1) := by decide +kernel
theorem dX8_step_1 : decode cX8_step 1 = .ok (.iconst 0, 1) := by decide +kernel
theorem dX8_step_2 : decode cX8_step 2 = .ok (.iconst 3, 1) := by decide +kernel
theorem dX8_step_3 : decode cX8_step 3 = .ok (.invokestatic 37, 3) := by decide +kernel
theorem dX8_step_6 : decode cX8_step 6 = .ok (.ifCond .ne 5, 3) := by decide +kernel
theorem dX8_step_9 : decode cX8_step 9 = .ok (.iconst (-1), 1) := by decide +kernel
theorem dX8_step_10 : decode cX8_step 10 = .ok (.ireturn, 1) := by decide +kernel
theorem dX8_step_11 : decode cX8_step 11 = .ok (.aload_n 0, 1) := by decide +kernel
theorem dX8_step_12 : decode cX8_step 12 = .ok (.aload_n 0, 1) := by decide +kernel
theorem dX8_step_13 : decode cX8_step 13 = .ok (.getfield 7, 3) := by decide +kernel
theorem dX8_step_16 : decode cX8_step 16 = .ok (.sipush 147, 3) := by decide +kernel
theorem dX8_step_19 : decode cX8_step 19 = .ok (.iaload, 1) := by decide +kernel
theorem dX8_step_20 : decode cX8_step 20 = .ok (.iload_n 1, 1) := by decide +kernel
theorem dX8_step_21 : decode cX8_step 21 = .ok (.invokevirtual 136, 3) := by decide +kernel
theorem dX8_step_24 : decode cX8_step 24 = .ok (.ifCond .ne 6, 3) := by decide +kernel
theorem dX8_step_27 : decode cX8_step 27 = .ok (.bipush (-2), 2) := by decide +kernel
theorem dX8_step_29 : decode cX8_step 29 = .ok (.ireturn, 1) := by decide +kernel
theorem dX8_step_30 : decode cX8_step 30 = .ok (.aload_n 0, 1) := by decide +kernel
theorem dX8_step_31 : decode cX8_step 31 = .ok (.invokevirtual 49, 3) := by decide +kernel
theorem dX8_step_34 : decode cX8_step 34 = .ok (.aload_n 0, 1) := by decide +kernel
theorem dX8_step_35 : decode cX8_step 35 = .ok (.iload_n 1, 1) := by decide +kernel
theorem dX8_step_36 : decode cX8_step 36 = .ok (.invokevirtual 139, 3) := by decide +kernel
theorem dX8_step_39 : decode cX8_step 39 = .ok (.aload_n 0, 1) := by decide +kernel
theorem dX8_step_40 : decode cX8_step 40 = .ok (.getfield 7, 3) := by decide +kernel
theorem dX8_step_43 : decode cX8_step 43 = .ok (.sipush 147, 3) := by decide +kernel
theorem dX8_step_46 : decode cX8_step 46 = .ok (.iaload, 1) := by decide +kernel
theorem dX8_step_47 : decode cX8_step 47 = .ok (.ireturn, 1) := by decide +kernel
set_option maxRecDepth 20000 in
theorem ggX8_forget_X8_record : GoodIn wsX8_forget wsX8_record := goodIn_r _ [6, 7, 8, 1, 72, 73, 74, 75, 76, 77, 78, 79, 80, 81, 82] (by decide +kernel) (by decide +kernel)
set_option maxRecDepth 20000 in
theorem gX8_forget_X8_record : GoodIn wsX8_forget (wsV RX8 49 RX8 yX8_record wsX8_record) := goodIn_app (goodIn_of _ (by decide +kernel)) ggX8_forget_X8_record
set_option maxRecDepth 20000 in
theorem ggX8_forget_X8_knownCells : GoodIn wsX8_forget wsX8_knownCells := goodIn_r _ [12, 1, 72, 73, 74, 75, 76, 77, 78, 79, 80, 81, 82] (by decide +kernel) (by decide +kernel)
set_option maxRecDepth 20000 in
theorem gX8_forget_X8_knownCells : GoodIn wsX8_forget (wsV RX8 142 RX8 yX8_knownCells wsX8_knownCells) := goodIn_app (goodIn_of _ (by decide +kernel)) ggX8_forget_X8_knownCells
set_option maxRecDepth 20000 in
theorem ggX8_forget_X8_remember : GoodIn wsX8_forget wsX8_remember := goodIn_r _ [16, 1, 17, 18, 19, 5, 20, 21, 22, 23, 24, 25, 26, 27, 28, 29, 30, 31, 32, 33, 34, 35, 36, 37, 38, 39, 40, 41, 42, 43, 44, 45, 46, 47, 48, 49, 50, 51, 52, 53, 54, 55, 56, 57, 58, 59, 60, 61, 62, 63, 64, 65, 66, 67, 68, 69, 70, 71, 72, 73, 74, 75, 76, 77, 78, 79, 80, 81, 82] (by decide +kernel) (by decide +kernel)
set_option maxRecDepth 20000 in
theorem gX8_forget_X8_remember : GoodIn wsX8_forget (wsV RX8 34 RX8 yX8_remember wsX8_remember) := goodIn_app (goodIn_of _ (by decide +kernel)) ggX8_forget_X8_remember
theorem dX8_forget_0 : decode cX8_forget 0 = .ok (.aload_n 0, 1) := by decide +kernel
theorem dX8_forget_1 : decode cX8_forget 1 = .ok (.invokevirtual 49, 3) := by decide +kernel
theorem dX8_forget_4 : decode cX8_forget 4 = .ok (.aload_n 0, 1) := by decide +kernel
theorem dX8_forget_5 : decode cX8_forget 5 = .ok (.invokevirtual 142, 3) := by decide +kernel
theorem dX8_forget_8 : decode cX8_forget 8 = .ok (.istore_n 1, 1) := by decide +kernel
theorem dX8_forget_9 : decode cX8_forget 9 = .ok (.iconst 0, 1) := by decide +kernel
theorem dX8_forget_10 : decode cX8_forget 10 = .ok (.istore_n 2, 1) := by decide +kernel
theorem dX8_forget_11 : decode cX8_forget 11 = .ok (.iload_n 2, 1) := by decide +kernel
theorem dX8_forget_12 : decode cX8_forget 12 = .ok (.bipush 64, 2) := by decide +kernel
theorem dX8_forget_14 : decode cX8_forget 14 = .ok (.if_icmp .ge 19, 3) := by decide +kernel
theorem dX8_forget_17 : decode cX8_forget 17 = .ok (.aload_n 0, 1) := by decide +kernel
theorem dX8_forget_18 : decode cX8_forget 18 = .ok (.getfield 7, 3) := by decide +kernel
theorem dX8_forget_21 : decode cX8_forget 21 = .ok (.bipush 64, 2) := by decide +kernel
theorem dX8_forget_23 : decode cX8_forget 23 = .ok (.iload_n 2, 1) := by decide +kernel
theorem dX8_forget_24 : decode cX8_forget 24 = .ok (.iadd, 1) := by decide +kernel
theorem dX8_forget_25 : decode cX8_forget 25 = .ok (.iconst 0, 1) := by decide +kernel
theorem dX8_forget_26 : decode cX8_forget 26 = .ok (.iastore, 1) := by decide +kernel
theorem dX8_forget_27 : decode cX8_forget 27 = .ok (.iinc 2 1, 3) := by decide +kernel
theorem dX8_forget_30 : decode cX8_forget 30 = .ok (.goto (-19), 3) := by decide +kernel
theorem dX8_forget_33 : decode cX8_forget 33 = .ok (.aload_n 0, 1) := by decide +kernel
theorem dX8_forget_34 : decode cX8_forget 34 = .ok (.invokevirtual 34, 3) := by decide +kernel
theorem dX8_forget_37 : decode cX8_forget 37 = .ok (.iload_n 1, 1) := by decide +kernel
theorem dX8_forget_38 : decode cX8_forget 38 = .ok (.ireturn, 1) := by decide +kernel
set_option maxRecDepth 20000 in
theorem ggX8_append_X8_in : GoodIn wsX8_append wsX8_in := goodIn_r _ [6] (by decide +kernel) (by decide +kernel)
set_option maxRecDepth 20000 in
theorem gX8_append_X8_in : GoodIn wsX8_append (va_wsS RX8 37 yX8_in wsX8_in) := goodIn_app (goodIn_of _ (by decide +kernel)) ggX8_append_X8_in
theorem dX8_append_0 : decode cX8_append 0 = .ok (.iload_n 1, 1) := by decide +kernel
theorem dX8_append_1 : decode cX8_append 1 = .ok (.bipush 33, 2) := by decide +kernel
theorem dX8_append_3 : decode cX8_append 3 = .ok (.bipush 126, 2) := by decide +kernel
theorem dX8_append_5 : decode cX8_append 5 = .ok (.invokestatic 37, 3) := by decide +kernel
theorem dX8_append_8 : decode cX8_append 8 = .ok (.ifCond .ne 5, 3) := by decide +kernel
theorem dX8_append_11 : decode cX8_append 11 = .ok (.iconst (-1), 1) := by decide +kernel
theorem dX8_append_12 : decode cX8_append 12 = .ok (.ireturn, 1) := by decide +kernel
theorem dX8_append_13 : decode cX8_append 13 = .ok (.aload_n 0, 1) := by decide +kernel
theorem dX8_append_14 : decode cX8_append 14 = .ok (.getfield 146, 3) := by decide +kernel
theorem dX8_append_17 : decode cX8_append 17 = .ok (.bipush 80, 2) := by decide +kernel
theorem dX8_append_19 : decode cX8_append 19 = .ok (.if_icmp .ne 6, 3) := by decide +kernel
theorem dX8_append_22 : decode cX8_append 22 = .ok (.bipush (-3), 2) := by decide +kernel
theorem dX8_append_24 : decode cX8_append 24 = .ok (.ireturn, 1) := by decide +kernel
theorem dX8_append_25 : decode cX8_append 25 = .ok (.aload_n 0, 1) := by decide +kernel
theorem dX8_append_26 : decode cX8_append 26 = .ok (.getfield 25, 3) := by decide +kernel
theorem dX8_append_29 : decode cX8_append 29 = .ok (.aload_n 0, 1) := by decide +kernel
theorem dX8_append_30 : decode cX8_append 30 = .ok (.getfield 146, 3) := by decide +kernel
theorem dX8_append_33 : decode cX8_append 33 = .ok (.iload_n 1, 1) := by decide +kernel
theorem dX8_append_34 : decode cX8_append 34 = .ok (.iastore, 1) := by decide +kernel
theorem dX8_append_35 : decode cX8_append 35 = .ok (.aload_n 0, 1) := by decide +kernel
theorem dX8_append_36 : decode cX8_append 36 = .ok (.dup, 1) := by decide +kernel
theorem dX8_append_37 : decode cX8_append 37 = .ok (.getfield 146, 3) := by decide +kernel
theorem dX8_append_40 : decode cX8_append 40 = .ok (.iconst 1, 1) := by decide +kernel
theorem dX8_append_41 : decode cX8_append 41 = .ok (.iadd, 1) := by decide +kernel
theorem dX8_append_42 : decode cX8_append 42 = .ok (.putfield 146, 3) := by decide +kernel
theorem dX8_append_45 : decode cX8_append 45 = .ok (.aload_n 0, 1) := by decide +kernel
theorem dX8_append_46 : decode cX8_append 46 = .ok (.getfield 146, 3) := by decide +kernel
theorem dX8_append_49 : decode cX8_append 49 = .ok (.ireturn, 1) := by decide +kernel
theorem dX8_clear_0 : decode cX8_clear 0 = .ok (.aload_n 0, 1) := by decide +kernel
theorem dX8_clear_1 : decode cX8_clear 1 = .ok (.getfield 146, 3) := by decide +kernel
theorem dX8_clear_4 : decode cX8_clear 4 = .ok (.istore_n 1, 1) := by decide +kernel
theorem dX8_clear_5 : decode cX8_clear 5 = .ok (.aload_n 0, 1) := by decide +kernel
theorem dX8_clear_6 : decode cX8_clear 6 = .ok (.iconst 0, 1) := by decide +kernel
theorem dX8_clear_7 : decode cX8_clear 7 = .ok (.putfield 146, 3) := by decide +kernel
theorem dX8_clear_10 : decode cX8_clear 10 = .ok (.iload_n 1, 1) := by decide +kernel
theorem dX8_clear_11 : decode cX8_clear 11 = .ok (.ireturn, 1) := by decide +kernel
theorem dX8_kindOf_0 : decode cX8_kindOf 0 = .ok (.iload_n 0, 1) := by decide +kernel
theorem dX8_kindOf_1 : decode cX8_kindOf 1 = .ok (.bipush 46, 2) := by decide +kernel
theorem dX8_kindOf_3 : decode cX8_kindOf 3 = .ok (.if_icmp .ne 7, 3) := by decide +kernel
theorem dX8_kindOf_6 : decode cX8_kindOf 6 = .ok (.iconst 0, 1) := by decide +kernel
theorem dX8_kindOf_7 : decode cX8_kindOf 7 = .ok (.goto 35, 3) := by decide +kernel
theorem dX8_kindOf_10 : decode cX8_kindOf 10 = .ok (.iload_n 0, 1) := by decide +kernel
theorem dX8_kindOf_11 : decode cX8_kindOf 11 = .ok (.bipush 35, 2) := by decide +kernel
theorem dX8_kindOf_13 : decode cX8_kindOf 13 = .ok (.if_icmp .ne 7, 3) := by decide +kernel
theorem dX8_kindOf_16 : decode cX8_kindOf 16 = .ok (.iconst 1, 1) := by decide +kernel
theorem dX8_kindOf_17 : decode cX8_kindOf 17 = .ok (.goto 25, 3) := by decide +kernel
theorem dX8_kindOf_20 : decode cX8_kindOf 20 = .ok (.iload_n 0, 1) := by decide +kernel
theorem dX8_kindOf_21 : decode cX8_kindOf 21 = .ok (.bipush 61, 2) := by decide +kernel
theorem dX8_kindOf_23 : decode cX8_kindOf 23 = .ok (.if_icmp .ne 7, 3) := by decide +kernel
theorem dX8_kindOf_26 : decode cX8_kindOf 26 = .ok (.iconst 2, 1) := by decide +kernel
theorem dX8_kindOf_27 : decode cX8_kindOf 27 = .ok (.goto 15, 3) := by decide +kernel
theorem dX8_kindOf_30 : decode cX8_kindOf 30 = .ok (.iload_n 0, 1) := by decide +kernel
theorem dX8_kindOf_31 : decode cX8_kindOf 31 = .ok (.bipush 126, 2) := by decide +kernel
theorem dX8_kindOf_33 : decode cX8_kindOf 33 = .ok (.if_icmp .ne 7, 3) := by decide +kernel
theorem dX8_kindOf_36 : decode cX8_kindOf 36 = .ok (.iconst 3, 1) := by decide +kernel
theorem dX8_kindOf_37 : decode cX8_kindOf 37 = .ok (.goto 5, 3) := by decide +kernel
theorem dX8_kindOf_40 : decode cX8_kindOf 40 = .ok (.bipush (-4), 2) := by decide +kernel
theorem dX8_kindOf_42 : decode cX8_kindOf 42 = .ok (.ireturn, 1) := by decide +kernel
set_option maxRecDepth 20000 in
theorem ggX8_fits_X8_kindOf : GoodIn wsX8_fits wsX8_kindOf := goodIn_r _ [5] (by decide +kernel) (by decide +kernel)
set_option maxRecDepth 20000 in
theorem gX8_fits_X8_kindOf : GoodIn wsX8_fits (va_wsS RX8 149 yX8_kindOf wsX8_kindOf) := goodIn_app (goodIn_of _ (by decide +kernel)) ggX8_fits_X8_kindOf
set_option maxRecDepth 20000 in
theorem ggX8_fits_X8_mayPut : GoodIn wsX8_fits wsX8_mayPut := goodIn_r _ [9, 10, 11, 12, 4, 13, 14, 15, 16, 17, 18, 19, 20, 21, 22, 23, 24] (by decide +kernel) (by decide +kernel)
set_option maxRecDepth 20000 in
theorem gX8_fits_X8_mayPut : GoodIn wsX8_fits (wsV RX8 123 RX8 yX8_mayPut wsX8_mayPut) := goodIn_app (goodIn_of _ (by decide +kernel)) ggX8_fits_X8_mayPut
theorem dX8_fits_0 : decode cX8_fits 0 = .ok (.iload_n 1, 1) := by decide +kernel
theorem dX8_fits_1 : decode cX8_fits 1 = .ok (.bipush 70, 2) := by decide +kernel
theorem dX8_fits_3 : decode cX8_fits 3 = .ok (.if_icmp .le 5, 3) := by decide +kernel
theorem dX8_fits_6 : decode cX8_fits 6 = .ok (.iconst 0, 1) := by decide +kernel
theorem dX8_fits_7 : decode cX8_fits 7 = .ok (.ireturn, 1) := by decide +kernel
theorem dX8_fits_8 : decode cX8_fits 8 = .ok (.iload_n 1, 1) := by decide +kernel
theorem dX8_fits_9 : decode cX8_fits 9 = .ok (.bipush 9, 2) := by decide +kernel
theorem dX8_fits_11 : decode cX8_fits 11 = .ok (.irem, 1) := by decide +kernel
theorem dX8_fits_12 : decode cX8_fits 12 = .ok (.bipush 8, 2) := by decide +kernel
theorem dX8_fits_14 : decode cX8_fits 14 = .ok (.if_icmp .ne 20, 3) := by decide +kernel
theorem dX8_fits_17 : decode cX8_fits 17 = .ok (.aload_n 0, 1) := by decide +kernel
theorem dX8_fits_18 : decode cX8_fits 18 = .ok (.getfield 25, 3) := by decide +kernel
theorem dX8_fits_21 : decode cX8_fits 21 = .ok (.iload_n 1, 1) := by decide +kernel
theorem dX8_fits_22 : decode cX8_fits 22 = .ok (.iaload, 1) := by decide +kernel
theorem dX8_fits_23 : decode cX8_fits 23 = .ok (.bipush 47, 2) := by decide +kernel
theorem dX8_fits_25 : decode cX8_fits 25 = .ok (.if_icmp .ne 7, 3) := by decide +kernel
theorem dX8_fits_28 : decode cX8_fits 28 = .ok (.iconst 1, 1) := by decide +kernel
theorem dX8_fits_29 : decode cX8_fits 29 = .ok (.goto 4, 3) := by decide +kernel
theorem dX8_fits_32 : decode cX8_fits 32 = .ok (.iconst 0, 1) := by decide +kernel
theorem dX8_fits_33 : decode cX8_fits 33 = .ok (.ireturn, 1) := by decide +kernel
theorem dX8_fits_34 : decode cX8_fits 34 = .ok (.aload_n 0, 1) := by decide +kernel
theorem dX8_fits_35 : decode cX8_fits 35 = .ok (.getfield 25, 3) := by decide +kernel
theorem dX8_fits_38 : decode cX8_fits 38 = .ok (.iload_n 1, 1) := by decide +kernel
theorem dX8_fits_39 : decode cX8_fits 39 = .ok (.iaload, 1) := by decide +kernel
theorem dX8_fits_40 : decode cX8_fits 40 = .ok (.invokestatic 149, 3) := by decide +kernel
theorem dX8_fits_43 : decode cX8_fits 43 = .ok (.istore_n 2, 1) := by decide +kernel
theorem dX8_fits_44 : decode cX8_fits 44 = .ok (.iload_n 2, 1) := by decide +kernel
theorem dX8_fits_45 : decode cX8_fits 45 = .ok (.bipush (-4), 2) := by decide +kernel
theorem dX8_fits_47 : decode cX8_fits 47 = .ok (.if_icmp .eq 27, 3) := by decide +kernel
theorem dX8_fits_50 : decode cX8_fits 50 = .ok (.aload_n 0, 1) := by decide +kernel
theorem dX8_fits_51 : decode cX8_fits 51 = .ok (.bipush 8, 2) := by decide +kernel
theorem dX8_fits_53 : decode cX8_fits 53 = .ok (.iload_n 1, 1) := by decide +kernel
theorem dX8_fits_54 : decode cX8_fits 54 = .ok (.bipush 9, 2) := by decide +kernel
theorem dX8_fits_56 : decode cX8_fits 56 = .ok (.idiv, 1) := by decide +kernel
theorem dX8_fits_57 : decode cX8_fits 57 = .ok (.imul, 1) := by decide +kernel
theorem dX8_fits_58 : decode cX8_fits 58 = .ok (.iload_n 1, 1) := by decide +kernel
theorem dX8_fits_59 : decode cX8_fits 59 = .ok (.bipush 9, 2) := by decide +kernel
theorem dX8_fits_61 : decode cX8_fits 61 = .ok (.irem, 1) := by decide +kernel
theorem dX8_fits_62 : decode cX8_fits 62 = .ok (.iadd, 1) := by decide +kernel
theorem dX8_fits_63 : decode cX8_fits 63 = .ok (.iload_n 2, 1) := by decide +kernel
theorem dX8_fits_64 : decode cX8_fits 64 = .ok (.invokevirtual 123, 3) := by decide +kernel
theorem dX8_fits_67 : decode cX8_fits 67 = .ok (.ifCond .eq 7, 3) := by decide +kernel
theorem dX8_fits_70 : decode cX8_fits 70 = .ok (.iconst 1, 1) := by decide +kernel
theorem dX8_fits_71 : decode cX8_fits 71 = .ok (.goto 4, 3) := by decide +kernel
theorem dX8_fits_74 : decode cX8_fits 74 = .ok (.iconst 0, 1) := by decide +kernel
theorem dX8_fits_75 : decode cX8_fits 75 = .ok (.ireturn, 1) := by decide +kernel
set_option maxRecDepth 20000 in
theorem ggX8_mapFault_X8_fits : GoodIn wsX8_mapFault wsX8_fits := goodIn_r _ [6, 7, 8, 9, 5, 10, 11, 12, 13, 14, 15, 16, 17, 18, 19, 20, 21, 22, 23, 24, 25, 26, 27, 28, 29] (by decide +kernel) (by decide +kernel)
set_option maxRecDepth 20000 in
theorem gX8_mapFault_X8_fits : GoodIn wsX8_mapFault (wsV RX8 152 RX8 yX8_fits wsX8_fits) := goodIn_app (goodIn_of _ (by decide +kernel)) ggX8_mapFault_X8_fits
theorem dX8_mapFault_0 : decode cX8_mapFault 0 = .ok (.iconst 0, 1) := by decide +kernel
theorem dX8_mapFault_1 : decode cX8_mapFault 1 = .ok (.istore_n 1, 1) := by decide +kernel
theorem dX8_mapFault_2 : decode cX8_mapFault 2 = .ok (.iload_n 1, 1) := by decide +kernel
theorem dX8_mapFault_3 : decode cX8_mapFault 3 = .ok (.aload_n 0, 1) := by decide +kernel
theorem dX8_mapFault_4 : decode cX8_mapFault 4 = .ok (.getfield 146, 3) := by decide +kernel
theorem dX8_mapFault_7 : decode cX8_mapFault 7 = .ok (.if_icmp .ge 19, 3) := by decide +kernel
theorem dX8_mapFault_10 : decode cX8_mapFault 10 = .ok (.aload_n 0, 1) := by decide +kernel
theorem dX8_mapFault_11 : decode cX8_mapFault 11 = .ok (.iload_n 1, 1) := by decide +kernel
theorem dX8_mapFault_12 : decode cX8_mapFault 12 = .ok (.invokevirtual 152, 3) := by decide +kernel
theorem dX8_mapFault_15 : decode cX8_mapFault 15 = .ok (.ifCond .ne 5, 3) := by decide +kernel
theorem dX8_mapFault_18 : decode cX8_mapFault 18 = .ok (.iload_n 1, 1) := by decide +kernel
theorem dX8_mapFault_19 : decode cX8_mapFault 19 = .ok (.ireturn, 1) := by decide +kernel
theorem dX8_mapFault_20 : decode cX8_mapFault 20 = .ok (.iinc 1 1, 3) := by decide +kernel
theorem dX8_mapFault_23 : decode cX8_mapFault 23 = .ok (.goto (-21), 3) := by decide +kernel
theorem dX8_mapFault_26 : decode cX8_mapFault 26 = .ok (.aload_n 0, 1) := by decide +kernel
theorem dX8_mapFault_27 : decode cX8_mapFault 27 = .ok (.getfield 146, 3) := by decide +kernel
theorem dX8_mapFault_30 : decode cX8_mapFault 30 = .ok (.bipush 71, 2) := by decide +kernel
theorem dX8_mapFault_32 : decode cX8_mapFault 32 = .ok (.if_icmp .ne 8, 3) := by decide +kernel
theorem dX8_mapFault_35 : decode cX8_mapFault 35 = .ok (.bipush (-4), 2) := by decide +kernel
theorem dX8_mapFault_37 : decode cX8_mapFault 37 = .ok (.goto 7, 3) := by decide +kernel
theorem dX8_mapFault_40 : decode cX8_mapFault 40 = .ok (.aload_n 0, 1) := by decide +kernel
theorem dX8_mapFault_41 : decode cX8_mapFault 41 = .ok (.getfield 146, 3) := by decide +kernel
theorem dX8_mapFault_44 : decode cX8_mapFault 44 = .ok (.ireturn, 1) := by decide +kernel
set_option maxRecDepth 20000 in
theorem ggX8_walkFault_X8_in : GoodIn wsX8_walkFault wsX8_in := goodIn_r _ [6] (by decide +kernel) (by decide +kernel)
set_option maxRecDepth 20000 in
theorem gX8_walkFault_X8_in : GoodIn wsX8_walkFault (va_wsS RX8 37 yX8_in wsX8_in) := goodIn_app (goodIn_of _ (by decide +kernel)) ggX8_walkFault_X8_in
theorem dX8_walkFault_0 : decode cX8_walkFault 0 = .ok (.iconst 0, 1) := by decide +kernel
theorem dX8_walkFault_1 : decode cX8_walkFault 1 = .ok (.istore_n 1, 1) := by decide +kernel
theorem dX8_walkFault_2 : decode cX8_walkFault 2 = .ok (.iload_n 1, 1) := by decide +kernel
theorem dX8_walkFault_3 : decode cX8_walkFault 3 = .ok (.aload_n 0, 1) := by decide +kernel
theorem dX8_walkFault_4 : decode cX8_walkFault 4 = .ok (.getfield 146, 3) := by decide +kernel
theorem dX8_walkFault_7 : decode cX8_walkFault 7 = .ok (.if_icmp .ge 27, 3) := by decide +kernel
theorem dX8_walkFault_10 : decode cX8_walkFault 10 = .ok (.aload_n 0, 1) := by decide +kernel
theorem dX8_walkFault_11 : decode cX8_walkFault 11 = .ok (.getfield 25, 3) := by decide +kernel
theorem dX8_walkFault_14 : decode cX8_walkFault 14 = .ok (.iload_n 1, 1) := by decide +kernel
theorem dX8_walkFault_15 : decode cX8_walkFault 15 = .ok (.iaload, 1) := by decide +kernel
theorem dX8_walkFault_16 : decode cX8_walkFault 16 = .ok (.bipush 48, 2) := by decide +kernel
theorem dX8_walkFault_18 : decode cX8_walkFault 18 = .ok (.bipush 51, 2) := by decide +kernel
theorem dX8_walkFault_20 : decode cX8_walkFault 20 = .ok (.invokestatic 37, 3) := by decide +kernel
theorem dX8_walkFault_23 : decode cX8_walkFault 23 = .ok (.ifCond .ne 5, 3) := by decide +kernel
theorem dX8_walkFault_26 : decode cX8_walkFault 26 = .ok (.iload_n 1, 1) := by decide +kernel
theorem dX8_walkFault_27 : decode cX8_walkFault 27 = .ok (.ireturn, 1) := by decide +kernel
theorem dX8_walkFault_28 : decode cX8_walkFault 28 = .ok (.iinc 1 1, 3) := by decide +kernel
theorem dX8_walkFault_31 : decode cX8_walkFault 31 = .ok (.goto (-29), 3) := by decide +kernel
theorem dX8_walkFault_34 : decode cX8_walkFault 34 = .ok (.aload_n 0, 1) := by decide +kernel
theorem dX8_walkFault_35 : decode cX8_walkFault 35 = .ok (.getfield 146, 3) := by decide +kernel
theorem dX8_walkFault_38 : decode cX8_walkFault 38 = .ok (.ifCond .le 8, 3) := by decide +kernel
theorem dX8_walkFault_41 : decode cX8_walkFault 41 = .ok (.bipush (-4), 2) := by decide +kernel
theorem dX8_walkFault_43 : decode cX8_walkFault 43 = .ok (.goto 4, 3) := by decide +kernel
theorem dX8_walkFault_46 : decode cX8_walkFault 46 = .ok (.iconst 0, 1) := by decide +kernel
theorem dX8_walkFault_47 : decode cX8_walkFault 47 = .ok (.ireturn, 1) := by decide +kernel
set_option maxRecDepth 20000 in
theorem ggX8_fault_X8_mapFault : GoodIn wsX8_fault wsX8_mapFault := goodIn_r _ [5, 6, 7, 8, 9, 4, 10, 11, 12, 13, 14, 15, 16, 17, 18, 19, 20, 21, 22, 30, 31, 32, 33, 34, 35, 36, 37, 38, 39, 40] (by decide +kernel) (by decide +kernel)
set_option maxRecDepth 20000 in
theorem gX8_fault_X8_mapFault : GoodIn wsX8_fault (wsV RX8 155 RX8 yX8_mapFault wsX8_mapFault) := goodIn_app (goodIn_of _ (by decide +kernel)) ggX8_fault_X8_mapFault
set_option maxRecDepth 20000 in
theorem ggX8_fault_X8_walkFault : GoodIn wsX8_fault wsX8_walkFault := goodIn_r _ [26, 6, 11, 27, 28, 4, 29, 30, 31, 32, 33, 34, 35, 36, 37, 38, 39, 40] (by decide +kernel) (by decide +kernel)
set_option maxRecDepth 20000 in
theorem gX8_fault_X8_walkFault : GoodIn wsX8_fault (wsV RX8 158 RX8 yX8_walkFault wsX8_walkFault) := goodIn_app (goodIn_of _ (by decide +kernel)) ggX8_fault_X8_walkFault
theorem dX8_fault_0 : decode cX8_fault 0 = .ok (.iload_n 1, 1) := by decide +kernel
theorem dX8_fault_1 : decode cX8_fault 1 = .ok (.ifCond .ne 10, 3) := by decide +kernel
theorem dX8_fault_4 : decode cX8_fault 4 = .ok (.aload_n 0, 1) := by decide +kernel
theorem dX8_fault_5 : decode cX8_fault 5 = .ok (.invokevirtual 155, 3) := by decide +kernel
theorem dX8_fault_8 : decode cX8_fault 8 = .ok (.goto 16, 3) := by decide +kernel
theorem dX8_fault_11 : decode cX8_fault 11 = .ok (.iload_n 1, 1) := by decide +kernel
theorem dX8_fault_12 : decode cX8_fault 12 = .ok (.iconst 1, 1) := by decide +kernel
theorem dX8_fault_13 : decode cX8_fault 13 = .ok (.if_icmp .ne 10, 3) := by decide +kernel
theorem dX8_fault_16 : decode cX8_fault 16 = .ok (.aload_n 0, 1) := by decide +kernel
theorem dX8_fault_17 : decode cX8_fault 17 = .ok (.invokevirtual 158, 3) := by decide +kernel
theorem dX8_fault_20 : decode cX8_fault 20 = .ok (.goto 4, 3) := by decide +kernel
theorem dX8_fault_23 : decode cX8_fault 23 = .ok (.iconst (-1), 1) := by decide +kernel
theorem dX8_fault_24 : decode cX8_fault 24 = .ok (.ireturn, 1) := by decide +kernel
set_option maxRecDepth 20000 in
theorem ggX8_load_X8_mapFault : GoodIn wsX8_load wsX8_mapFault := goodIn_r _ [8, 3, 9, 10, 11, 7, 12, 1, 13, 14, 15, 16, 17, 18, 19, 2, 20, 21, 22, 100, 101, 102, 103, 104, 105, 106, 107, 108, 109, 110] (by decide +kernel) (by decide +kernel)
set_option maxRecDepth 20000 in
theorem gX8_load_X8_mapFault : GoodIn wsX8_load (wsV RX8 155 RX8 yX8_mapFault wsX8_mapFault) := goodIn_app (goodIn_of _ (by decide +kernel)) ggX8_load_X8_mapFault
set_option maxRecDepth 20000 in
theorem ggX8_load_X8_record : GoodIn wsX8_load wsX8_record := goodIn_r _ [26, 27, 28, 2, 100, 101, 102, 103, 104, 105, 106, 107, 108, 109, 110] (by decide +kernel) (by decide +kernel)
set_option maxRecDepth 20000 in
theorem gX8_load_X8_record : GoodIn wsX8_load (wsV RX8 49 RX8 yX8_record wsX8_record) := goodIn_app (goodIn_of _ (by decide +kernel)) ggX8_load_X8_record
set_option maxRecDepth 20000 in
theorem ggX8_load_X8_kindOf : GoodIn wsX8_load wsX8_kindOf := goodIn_r _ [15] (by decide +kernel) (by decide +kernel)
set_option maxRecDepth 20000 in
theorem gX8_load_X8_kindOf : GoodIn wsX8_load (va_wsS RX8 149 yX8_kindOf wsX8_kindOf) := goodIn_app (goodIn_of _ (by decide +kernel)) ggX8_load_X8_kindOf
set_option maxRecDepth 20000 in
theorem ggX8_load_X8_lay : GoodIn wsX8_load wsX8_lay := goodIn_r _ [32, 2, 33, 34, 7, 35, 36, 37, 38, 39, 40, 41, 42, 43, 100, 101, 102, 103, 104, 105, 106, 107, 108, 109, 110] (by decide +kernel) (by decide +kernel)
set_option maxRecDepth 20000 in
theorem gX8_load_X8_lay : GoodIn wsX8_load (wsV RX8 126 RX8 yX8_lay wsX8_lay) := goodIn_app (goodIn_of _ (by decide +kernel)) ggX8_load_X8_lay
set_option maxRecDepth 20000 in
theorem ggX8_load_X8_remember : GoodIn wsX8_load wsX8_remember := goodIn_r _ [47, 2, 48, 49, 50, 7, 51, 52, 53, 54, 55, 56, 57, 58, 59, 60, 61, 62, 63, 64, 65, 66, 67, 68, 69, 70, 33, 34, 35, 71, 72, 73, 74, 75, 76, 77, 78, 79, 80, 81, 82, 83, 84, 85, 86, 87, 88, 89, 90, 91, 92, 93, 94, 95, 96, 97, 98, 99, 100, 101, 102, 103, 104, 105, 106, 107, 108, 109, 110] (by decide +kernel) (by decide +kernel)
set_option maxRecDepth 20000 in
theorem gX8_load_X8_remember : GoodIn wsX8_load (wsV RX8 34 RX8 yX8_remember wsX8_remember) := goodIn_app (goodIn_of _ (by decide +kernel)) ggX8_load_X8_remember
theorem dX8_load_0 : decode cX8_load 0 = .ok (.aload_n 0, 1) := by decide +kernel
theorem dX8_load_1 : decode cX8_load 1 = .ok (.invokevirtual 155, 3) := by decide +kernel
theorem dX8_load_4 : decode cX8_load 4 = .ok (.bipush (-4), 2) := by decide +kernel
theorem dX8_load_6 : decode cX8_load 6 = .ok (.if_icmp .eq 6, 3) := by decide +kernel
theorem dX8_load_9 : decode cX8_load 9 = .ok (.bipush (-2), 2) := by decide +kernel
theorem dX8_load_11 : decode cX8_load 11 = .ok (.ireturn, 1) := by decide +kernel
theorem dX8_load_12 : decode cX8_load 12 = .ok (.aload_n 0, 1) := by decide +kernel
theorem dX8_load_13 : decode cX8_load 13 = .ok (.invokevirtual 49, 3) := by decide +kernel
theorem dX8_load_16 : decode cX8_load 16 = .ok (.iconst 0, 1) := by decide +kernel
theorem dX8_load_17 : decode cX8_load 17 = .ok (.istore_n 1, 1) := by decide +kernel
theorem dX8_load_18 : decode cX8_load 18 = .ok (.iconst 0, 1) := by decide +kernel
theorem dX8_load_19 : decode cX8_load 19 = .ok (.istore_n 2, 1) := by decide +kernel
theorem dX8_load_20 : decode cX8_load 20 = .ok (.iload_n 2, 1) := by decide +kernel
theorem dX8_load_21 : decode cX8_load 21 = .ok (.bipush 64, 2) := by decide +kernel
theorem dX8_load_23 : decode cX8_load 23 = .ok (.if_icmp .ge 56, 3) := by decide +kernel
theorem dX8_load_26 : decode cX8_load 26 = .ok (.aload_n 0, 1) := by decide +kernel
theorem dX8_load_27 : decode cX8_load 27 = .ok (.getfield 25, 3) := by decide +kernel
theorem dX8_load_30 : decode cX8_load 30 = .ok (.bipush 9, 2) := by decide +kernel
theorem dX8_load_32 : decode cX8_load 32 = .ok (.iload_n 2, 1) := by decide +kernel
theorem dX8_load_33 : decode cX8_load 33 = .ok (.bipush 8, 2) := by decide +kernel
theorem dX8_load_35 : decode cX8_load 35 = .ok (.idiv, 1) := by decide +kernel
theorem dX8_load_36 : decode cX8_load 36 = .ok (.imul, 1) := by decide +kernel
theorem dX8_load_37 : decode cX8_load 37 = .ok (.iload_n 2, 1) := by decide +kernel
theorem dX8_load_38 : decode cX8_load 38 = .ok (.bipush 8, 2) := by decide +kernel
theorem dX8_load_40 : decode cX8_load 40 = .ok (.irem, 1) := by decide +kernel
theorem dX8_load_41 : decode cX8_load 41 = .ok (.iadd, 1) := by decide +kernel
theorem dX8_load_42 : decode cX8_load 42 = .ok (.iaload, 1) := by decide +kernel
theorem dX8_load_43 : decode cX8_load 43 = .ok (.invokestatic 149, 3) := by decide +kernel
theorem dX8_load_46 : decode cX8_load 46 = .ok (.istore_n 3, 1) := by decide +kernel
theorem dX8_load_47 : decode cX8_load 47 = .ok (.iload_n 1, 1) := by decide +kernel
theorem dX8_load_48 : decode cX8_load 48 = .ok (.iload_n 3, 1) := by decide +kernel
theorem dX8_load_49 : decode cX8_load 49 = .ok (.aload_n 0, 1) := by decide +kernel
theorem dX8_load_50 : decode cX8_load 50 = .ok (.getfield 7, 3) := by decide +kernel
theorem dX8_load_53 : decode cX8_load 53 = .ok (.iconst 0, 1) := by decide +kernel
theorem dX8_load_54 : decode cX8_load 54 = .ok (.iload_n 2, 1) := by decide +kernel
theorem dX8_load_55 : decode cX8_load 55 = .ok (.iadd, 1) := by decide +kernel
theorem dX8_load_56 : decode cX8_load 56 = .ok (.iaload, 1) := by decide +kernel
theorem dX8_load_57 : decode cX8_load 57 = .ok (.if_icmp .eq 7, 3) := by decide +kernel
theorem dX8_load_60 : decode cX8_load 60 = .ok (.iconst 1, 1) := by decide +kernel
theorem dX8_load_61 : decode cX8_load 61 = .ok (.goto 4, 3) := by decide +kernel
theorem dX8_load_64 : decode cX8_load 64 = .ok (.iconst 0, 1) := by decide +kernel
theorem dX8_load_65 : decode cX8_load 65 = .ok (.iadd, 1) := by decide +kernel
theorem dX8_load_66 : decode cX8_load 66 = .ok (.istore_n 1, 1) := by decide +kernel
theorem dX8_load_67 : decode cX8_load 67 = .ok (.aload_n 0, 1) := by decide +kernel
theorem dX8_load_68 : decode cX8_load 68 = .ok (.iload_n 2, 1) := by decide +kernel
theorem dX8_load_69 : decode cX8_load 69 = .ok (.iload_n 3, 1) := by decide +kernel
theorem dX8_load_70 : decode cX8_load 70 = .ok (.invokevirtual 126, 3) := by decide +kernel
theorem dX8_load_73 : decode cX8_load 73 = .ok (.iinc 2 1, 3) := by decide +kernel
theorem dX8_load_76 : decode cX8_load 76 = .ok (.goto (-56), 3) := by decide +kernel
theorem dX8_load_79 : decode cX8_load 79 = .ok (.aload_n 0, 1) := by decide +kernel
theorem dX8_load_80 : decode cX8_load 80 = .ok (.iconst 0, 1) := by decide +kernel
theorem dX8_load_81 : decode cX8_load 81 = .ok (.putfield 146, 3) := by decide +kernel
theorem dX8_load_84 : decode cX8_load 84 = .ok (.aload_n 0, 1) := by decide +kernel
theorem dX8_load_85 : decode cX8_load 85 = .ok (.invokevirtual 34, 3) := by decide +kernel
theorem dX8_load_88 : decode cX8_load 88 = .ok (.iload_n 1, 1) := by decide +kernel
theorem dX8_load_89 : decode cX8_load 89 = .ok (.ireturn, 1) := by decide +kernel
set_option maxRecDepth 20000 in
theorem ggX8_walk_X8_walkFault : GoodIn wsX8_walk wsX8_walkFault := goodIn_r _ [8, 1, 3, 9, 10, 7, 11, 88, 89, 90, 91, 92, 93, 94, 95, 96, 97, 98] (by decide +kernel) (by decide +kernel)
set_option maxRecDepth 20000 in
theorem gX8_walk_X8_walkFault : GoodIn wsX8_walk (wsV RX8 158 RX8 yX8_walkFault wsX8_walkFault) := goodIn_app (goodIn_of _ (by decide +kernel)) ggX8_walk_X8_walkFault
set_option maxRecDepth 20000 in
theorem ggX8_walk_X8_record : GoodIn wsX8_walk wsX8_record := goodIn_r _ [15, 16, 17, 2, 88, 89, 90, 91, 92, 93, 94, 95, 96, 97, 98] (by decide +kernel) (by decide +kernel)
set_option maxRecDepth 20000 in
theorem gX8_walk_X8_record : GoodIn wsX8_walk (wsV RX8 49 RX8 yX8_record wsX8_record) := goodIn_app (goodIn_of _ (by decide +kernel)) ggX8_walk_X8_record
set_option maxRecDepth 20000 in
theorem ggX8_walk_X8_canGo : GoodIn wsX8_walk wsX8_canGo := goodIn_r _ [21, 2, 22, 23, 7, 24, 9, 10, 11, 25, 26, 27, 88, 89, 90, 91, 92, 93, 94, 95, 96, 97, 98] (by decide +kernel) (by decide +kernel)
set_option maxRecDepth 20000 in
theorem gX8_walk_X8_canGo : GoodIn wsX8_walk (wsV RX8 136 RX8 yX8_canGo wsX8_canGo) := goodIn_app (goodIn_of _ (by decide +kernel)) ggX8_walk_X8_canGo
set_option maxRecDepth 20000 in
theorem ggX8_walk_X8_go : GoodIn wsX8_walk wsX8_go := goodIn_r _ [31, 2, 22, 23, 7, 24, 9, 10, 11, 32, 33, 34, 35, 36, 37, 38, 39, 40, 41, 42, 43, 44, 45, 46, 47, 48, 49, 50, 51, 52, 53, 54, 55, 56, 57, 58, 59, 60, 61, 62, 63, 64, 65, 66, 67, 68, 69, 70, 71, 72, 73, 74, 75, 76, 77, 78, 79, 80, 81, 82, 83, 84, 85, 86, 87, 88, 89, 90, 91, 92, 93, 94, 95, 96, 97, 98] (by decide +kernel) (by decide +kernel)
set_option maxRecDepth 20000 in
theorem gX8_walk_X8_go : GoodIn wsX8_walk (wsV RX8 139 RX8 yX8_go wsX8_go) := goodIn_app (goodIn_of _ (by decide +kernel)) ggX8_walk_X8_go
set_option maxRecDepth 20000 in
theorem ggX8_walk_X8_remember : GoodIn wsX8_walk wsX8_remember := goodIn_r _ [35, 2, 36, 37, 38, 7, 39, 40, 41, 42, 43, 44, 45, 46, 47, 48, 49, 50, 51, 52, 53, 54, 55, 56, 57, 58, 59, 60, 61, 62, 63, 64, 65, 66, 67, 9, 10, 11, 68, 69, 70, 71, 72, 73, 74, 75, 76, 77, 78, 79, 80, 81, 82, 83, 84, 85, 86, 87, 88, 89, 90, 91, 92, 93, 94, 95, 96, 97, 98] (by decide +kernel) (by decide +kernel)
set_option maxRecDepth 20000 in
theorem gX8_walk_X8_remember : GoodIn wsX8_walk (wsV RX8 34 RX8 yX8_remember wsX8_remember) := goodIn_app (goodIn_of _ (by decide +kernel)) ggX8_walk_X8_remember
theorem dX8_walk_0 : decode cX8_walk 0 = .ok (.aload_n 0, 1) := by decide +kernel
theorem dX8_walk_1 : decode cX8_walk 1 = .ok (.invokevirtual 158, 3) := by decide +kernel
theorem dX8_walk_4 : decode cX8_walk 4 = .ok (.bipush (-4), 2) := by decide +kernel
theorem dX8_walk_6 : decode cX8_walk 6 = .ok (.if_icmp .eq 6, 3) := by decide +kernel
theorem dX8_walk_9 : decode cX8_walk 9 = .ok (.bipush (-2), 2) := by decide +kernel
theorem dX8_walk_11 : decode cX8_walk 11 = .ok (.ireturn, 1) := by decide +kernel
theorem dX8_walk_12 : decode cX8_walk 12 = .ok (.aload_n 0, 1) := by decide +kernel
theorem dX8_walk_13 : decode cX8_walk 13 = .ok (.invokevirtual 49, 3) := by decide +kernel
theorem dX8_walk_16 : decode cX8_walk 16 = .ok (.iconst 0, 1) := by decide +kernel
theorem dX8_walk_17 : decode cX8_walk 17 = .ok (.istore_n 1, 1) := by decide +kernel
theorem dX8_walk_18 : decode cX8_walk 18 = .ok (.iload_n 1, 1) := by decide +kernel
theorem dX8_walk_19 : decode cX8_walk 19 = .ok (.aload_n 0, 1) := by decide +kernel
theorem dX8_walk_20 : decode cX8_walk 20 = .ok (.getfield 146, 3) := by decide +kernel
theorem dX8_walk_23 : decode cX8_walk 23 = .ok (.if_icmp .ge 46, 3) := by decide +kernel
theorem dX8_walk_26 : decode cX8_walk 26 = .ok (.aload_n 0, 1) := by decide +kernel
theorem dX8_walk_27 : decode cX8_walk 27 = .ok (.aload_n 0, 1) := by decide +kernel
theorem dX8_walk_28 : decode cX8_walk 28 = .ok (.getfield 7, 3) := by decide +kernel
theorem dX8_walk_31 : decode cX8_walk 31 = .ok (.sipush 147, 3) := by decide +kernel
theorem dX8_walk_34 : decode cX8_walk 34 = .ok (.iaload, 1) := by decide +kernel
theorem dX8_walk_35 : decode cX8_walk 35 = .ok (.aload_n 0, 1) := by decide +kernel
theorem dX8_walk_36 : decode cX8_walk 36 = .ok (.getfield 25, 3) := by decide +kernel
theorem dX8_walk_39 : decode cX8_walk 39 = .ok (.iload_n 1, 1) := by decide +kernel
theorem dX8_walk_40 : decode cX8_walk 40 = .ok (.iaload, 1) := by decide +kernel
theorem dX8_walk_41 : decode cX8_walk 41 = .ok (.bipush 48, 2) := by decide +kernel
theorem dX8_walk_43 : decode cX8_walk 43 = .ok (.isub, 1) := by decide +kernel
theorem dX8_walk_44 : decode cX8_walk 44 = .ok (.invokevirtual 136, 3) := by decide +kernel
theorem dX8_walk_47 : decode cX8_walk 47 = .ok (.ifCond .eq 22, 3) := by decide +kernel
theorem dX8_walk_50 : decode cX8_walk 50 = .ok (.aload_n 0, 1) := by decide +kernel
theorem dX8_walk_51 : decode cX8_walk 51 = .ok (.aload_n 0, 1) := by decide +kernel
theorem dX8_walk_52 : decode cX8_walk 52 = .ok (.getfield 25, 3) := by decide +kernel
theorem dX8_walk_55 : decode cX8_walk 55 = .ok (.iload_n 1, 1) := by decide +kernel
theorem dX8_walk_56 : decode cX8_walk 56 = .ok (.iaload, 1) := by decide +kernel
theorem dX8_walk_57 : decode cX8_walk 57 = .ok (.bipush 48, 2) := by decide +kernel
theorem dX8_walk_59 : decode cX8_walk 59 = .ok (.isub, 1) := by decide +kernel
theorem dX8_walk_60 : decode cX8_walk 60 = .ok (.invokevirtual 139, 3) := by decide +kernel
theorem dX8_walk_63 : decode cX8_walk 63 = .ok (.iinc 1 1, 3) := by decide +kernel
theorem dX8_walk_66 : decode cX8_walk 66 = .ok (.goto (-48), 3) := by decide +kernel
theorem dX8_walk_69 : decode cX8_walk 69 = .ok (.aload_n 0, 1) := by decide +kernel
theorem dX8_walk_70 : decode cX8_walk 70 = .ok (.iconst 0, 1) := by decide +kernel
theorem dX8_walk_71 : decode cX8_walk 71 = .ok (.putfield 146, 3) := by decide +kernel
theorem dX8_walk_74 : decode cX8_walk 74 = .ok (.aload_n 0, 1) := by decide +kernel
theorem dX8_walk_75 : decode cX8_walk 75 = .ok (.invokevirtual 34, 3) := by decide +kernel
theorem dX8_walk_78 : decode cX8_walk 78 = .ok (.iload_n 1, 1) := by decide +kernel
theorem dX8_walk_79 : decode cX8_walk 79 = .ok (.ireturn, 1) := by decide +kernel
set_option maxRecDepth 20000 in
theorem ggX8_lampsFor_X8_given : GoodIn wsX8_lampsFor wsX8_given := goodIn_r _ [6, 1, 7, 8, 9, 5, 10, 11, 12, 13, 14, 15, 16, 17, 18, 19, 20, 21, 22, 23, 24, 25, 26, 27, 28, 29, 30, 31, 32, 33, 34, 35, 36, 37, 38, 39, 40, 41, 42, 43, 44, 45, 46, 47, 48, 49, 50, 51, 52, 53] (by decide +kernel) (by decide +kernel)
set_option maxRecDepth 20000 in
theorem gX8_lampsFor_X8_given : GoodIn wsX8_lampsFor (wsV RX8 88 RX8 yX8_given wsX8_given) := goodIn_app (goodIn_of _ (by decide +kernel)) ggX8_lampsFor_X8_given
theorem dX8_lampsFor_0 : decode cX8_lampsFor 0 = .ok (.iconst 0, 1) := by decide +kernel
theorem dX8_lampsFor_1 : decode cX8_lampsFor 1 = .ok (.istore_n 2, 1) := by decide +kernel
theorem dX8_lampsFor_2 : decode cX8_lampsFor 2 = .ok (.iconst 0, 1) := by decide +kernel
theorem dX8_lampsFor_3 : decode cX8_lampsFor 3 = .ok (.istore_n 3, 1) := by decide +kernel
theorem dX8_lampsFor_4 : decode cX8_lampsFor 4 = .ok (.iload_n 3, 1) := by decide +kernel
theorem dX8_lampsFor_5 : decode cX8_lampsFor 5 = .ok (.aload_n 0, 1) := by decide +kernel
theorem dX8_lampsFor_6 : decode cX8_lampsFor 6 = .ok (.getfield 7, 3) := by decide +kernel
theorem dX8_lampsFor_9 : decode cX8_lampsFor 9 = .ok (.sipush 128, 3) := by decide +kernel
theorem dX8_lampsFor_12 : decode cX8_lampsFor 12 = .ok (.iaload, 1) := by decide +kernel
theorem dX8_lampsFor_13 : decode cX8_lampsFor 13 = .ok (.if_icmp .ge 28, 3) := by decide +kernel
theorem dX8_lampsFor_16 : decode cX8_lampsFor 16 = .ok (.iload_n 2, 1) := by decide +kernel
theorem dX8_lampsFor_17 : decode cX8_lampsFor 17 = .ok (.aload_n 0, 1) := by decide +kernel
theorem dX8_lampsFor_18 : decode cX8_lampsFor 18 = .ok (.iload_n 3, 1) := by decide +kernel
theorem dX8_lampsFor_19 : decode cX8_lampsFor 19 = .ok (.iload_n 1, 1) := by decide +kernel
theorem dX8_lampsFor_20 : decode cX8_lampsFor 20 = .ok (.invokevirtual 88, 3) := by decide +kernel
theorem dX8_lampsFor_23 : decode cX8_lampsFor 23 = .ok (.ifCond .le 9, 3) := by decide +kernel
theorem dX8_lampsFor_26 : decode cX8_lampsFor 26 = .ok (.iconst 1, 1) := by decide +kernel
theorem dX8_lampsFor_27 : decode cX8_lampsFor 27 = .ok (.iload_n 3, 1) := by decide +kernel
theorem dX8_lampsFor_28 : decode cX8_lampsFor 28 = .ok (.ishl, 1) := by decide +kernel
theorem dX8_lampsFor_29 : decode cX8_lampsFor 29 = .ok (.goto 4, 3) := by decide +kernel
theorem dX8_lampsFor_32 : decode cX8_lampsFor 32 = .ok (.iconst 0, 1) := by decide +kernel
theorem dX8_lampsFor_33 : decode cX8_lampsFor 33 = .ok (.ior, 1) := by decide +kernel
theorem dX8_lampsFor_34 : decode cX8_lampsFor 34 = .ok (.istore_n 2, 1) := by decide +kernel
theorem dX8_lampsFor_35 : decode cX8_lampsFor 35 = .ok (.iinc 3 1, 3) := by decide +kernel
theorem dX8_lampsFor_38 : decode cX8_lampsFor 38 = .ok (.goto (-34), 3) := by decide +kernel
theorem dX8_lampsFor_41 : decode cX8_lampsFor 41 = .ok (.iload_n 2, 1) := by decide +kernel
theorem dX8_lampsFor_42 : decode cX8_lampsFor 42 = .ok (.ireturn, 1) := by decide +kernel
set_option maxRecDepth 20000 in
theorem ggX8_seesMany_X8_isFree : GoodIn wsX8_seesMany wsX8_isFree := goodIn_r _ [5, 6, 7, 8, 4, 9, 10, 11, 12, 13, 14, 15, 16, 17, 18, 19, 20, 21, 22, 23, 24, 25, 26, 27, 28, 29, 30, 31, 32, 33, 34, 35, 36, 37, 38, 39, 40, 41, 42, 43, 44, 45, 46] (by decide +kernel) (by decide +kernel)
set_option maxRecDepth 20000 in
theorem gX8_seesMany_X8_isFree : GoodIn wsX8_seesMany (wsV RX8 81 RX8 yX8_isFree wsX8_isFree) := goodIn_app (goodIn_of _ (by decide +kernel)) ggX8_seesMany_X8_isFree
theorem dX8_seesMany_0 : decode cX8_seesMany 0 = .ok (.iconst 0, 1) := by decide +kernel
theorem dX8_seesMany_1 : decode cX8_seesMany 1 = .ok (.istore_n 2, 1) := by decide +kernel
theorem dX8_seesMany_2 : decode cX8_seesMany 2 = .ok (.iconst 0, 1) := by decide +kernel
theorem dX8_seesMany_3 : decode cX8_seesMany 3 = .ok (.istore_n 3, 1) := by decide +kernel
theorem dX8_seesMany_4 : decode cX8_seesMany 4 = .ok (.iload_n 3, 1) := by decide +kernel
theorem dX8_seesMany_5 : decode cX8_seesMany 5 = .ok (.bipush 64, 2) := by decide +kernel
theorem dX8_seesMany_7 : decode cX8_seesMany 7 = .ok (.if_icmp .ge 26, 3) := by decide +kernel
theorem dX8_seesMany_10 : decode cX8_seesMany 10 = .ok (.iload_n 2, 1) := by decide +kernel
theorem dX8_seesMany_11 : decode cX8_seesMany 11 = .ok (.aload_n 0, 1) := by decide +kernel
theorem dX8_seesMany_12 : decode cX8_seesMany 12 = .ok (.iload_n 1, 1) := by decide +kernel
theorem dX8_seesMany_13 : decode cX8_seesMany 13 = .ok (.iload_n 3, 1) := by decide +kernel
theorem dX8_seesMany_14 : decode cX8_seesMany 14 = .ok (.invokevirtual 81, 3) := by decide +kernel
theorem dX8_seesMany_17 : decode cX8_seesMany 17 = .ok (.ifCond .eq 7, 3) := by decide +kernel
theorem dX8_seesMany_20 : decode cX8_seesMany 20 = .ok (.iconst 1, 1) := by decide +kernel
theorem dX8_seesMany_21 : decode cX8_seesMany 21 = .ok (.goto 4, 3) := by decide +kernel
theorem dX8_seesMany_24 : decode cX8_seesMany 24 = .ok (.iconst 0, 1) := by decide +kernel
theorem dX8_seesMany_25 : decode cX8_seesMany 25 = .ok (.iadd, 1) := by decide +kernel
theorem dX8_seesMany_26 : decode cX8_seesMany 26 = .ok (.istore_n 2, 1) := by decide +kernel
theorem dX8_seesMany_27 : decode cX8_seesMany 27 = .ok (.iinc 3 1, 3) := by decide +kernel
theorem dX8_seesMany_30 : decode cX8_seesMany 30 = .ok (.goto (-26), 3) := by decide +kernel
theorem dX8_seesMany_33 : decode cX8_seesMany 33 = .ok (.iload_n 2, 1) := by decide +kernel
theorem dX8_seesMany_34 : decode cX8_seesMany 34 = .ok (.ireturn, 1) := by decide +kernel
set_option maxRecDepth 20000 in
theorem ggX8_property_X8_lightAt : GoodIn wsX8_property wsX8_lightAt := goodIn_r _ [6, 1, 7, 8, 9, 5, 10, 11, 12, 13, 14, 15, 16, 17, 18, 19, 20, 21, 22, 23, 24, 25, 26, 27, 28, 29, 30, 31, 32, 33, 34, 35, 36, 37, 38, 39, 40, 41, 42, 43, 44, 45, 46, 70, 71, 72, 73, 74, 75, 76, 77, 78, 79, 80] (by decide +kernel) (by decide +kernel)
set_option maxRecDepth 20000 in
theorem gX8_property_X8_lightAt : GoodIn wsX8_property (wsV RX8 91 RX8 yX8_lightAt wsX8_lightAt) := goodIn_app (goodIn_of _ (by decide +kernel)) ggX8_property_X8_lightAt
set_option maxRecDepth 20000 in
theorem ggX8_property_X8_isSeen : GoodIn wsX8_property wsX8_isSeen := goodIn_r _ [50, 1, 51, 52, 53, 5, 54, 55, 56, 57, 2, 3, 4, 6, 7, 8, 9, 10, 11, 12, 13, 14, 15, 16, 17, 18, 19, 20, 21, 22, 23, 24, 25, 26, 27, 28, 29, 30, 31, 32, 33, 34, 35, 36, 37, 38, 39, 40, 41, 42, 43, 44, 45, 46, 70, 71, 72, 73, 74, 75, 76, 77, 78, 79, 80] (by decide +kernel) (by decide +kernel)
set_option maxRecDepth 20000 in
theorem gX8_property_X8_isSeen : GoodIn wsX8_property (wsV RX8 104 RX8 yX8_isSeen wsX8_isSeen) := goodIn_app (goodIn_of _ (by decide +kernel)) ggX8_property_X8_isSeen
set_option maxRecDepth 20000 in
theorem ggX8_property_X8_lampsFor : GoodIn wsX8_property wsX8_lampsFor := goodIn_r _ [61, 1, 7, 8, 9, 5, 10, 11, 12, 13, 14, 15, 16, 17, 18, 19, 20, 21, 22, 23, 24, 25, 26, 27, 28, 29, 30, 31, 32, 33, 34, 35, 36, 37, 38, 39, 40, 41, 42, 43, 44, 45, 46, 70, 71, 72, 73, 74, 75, 76, 77, 78, 79, 80] (by decide +kernel) (by decide +kernel)
set_option maxRecDepth 20000 in
theorem gX8_property_X8_lampsFor : GoodIn wsX8_property (wsV RX8 161 RX8 yX8_lampsFor wsX8_lampsFor) := goodIn_app (goodIn_of _ (by decide +kernel)) ggX8_property_X8_lampsFor
set_option maxRecDepth 20000 in
theorem ggX8_property_X8_lampIn : GoodIn wsX8_property wsX8_lampIn := goodIn_r _ [65, 1, 70, 71, 72, 73, 74, 75, 76, 77, 78, 79, 80] (by decide +kernel) (by decide +kernel)
set_option maxRecDepth 20000 in
theorem gX8_property_X8_lampIn : GoodIn wsX8_property (wsV RX8 113 RX8 yX8_lampIn wsX8_lampIn) := goodIn_app (goodIn_of _ (by decide +kernel)) ggX8_property_X8_lampIn
set_option maxRecDepth 20000 in
theorem ggX8_property_X8_seesMany : GoodIn wsX8_property wsX8_seesMany := goodIn_r _ [69, 11, 12, 13, 5, 14, 1, 15, 16, 17, 18, 19, 20, 21, 22, 23, 24, 25, 26, 27, 28, 29, 30, 31, 32, 33, 34, 35, 36, 37, 38, 39, 40, 41, 42, 43, 70, 71, 72, 73, 74, 75, 76, 77, 78, 79, 80] (by decide +kernel) (by decide +kernel)
set_option maxRecDepth 20000 in
theorem gX8_property_X8_seesMany : GoodIn wsX8_property (wsV RX8 164 RX8 yX8_seesMany wsX8_seesMany) := goodIn_app (goodIn_of _ (by decide +kernel)) ggX8_property_X8_seesMany
theorem dX8_property_0 : decode cX8_property 0 = .ok (.iload_n 2, 1) := by decide +kernel
theorem dX8_property_1 : decode cX8_property 1 = .ok (.tableswitch 116 0 6 #[43, 52, 58, 80, 94, 104, 110], 43) := by decide +kernel
theorem dX8_property_44 : decode cX8_property 44 = .ok (.aload_n 0, 1) := by decide +kernel
theorem dX8_property_45 : decode cX8_property 45 = .ok (.getfield 7, 3) := by decide +kernel
theorem dX8_property_48 : decode cX8_property 48 = .ok (.iconst 0, 1) := by decide +kernel
theorem dX8_property_49 : decode cX8_property 49 = .ok (.iload_n 1, 1) := by decide +kernel
theorem dX8_property_50 : decode cX8_property 50 = .ok (.iadd, 1) := by decide +kernel
theorem dX8_property_51 : decode cX8_property 51 = .ok (.iaload, 1) := by decide +kernel
theorem dX8_property_52 : decode cX8_property 52 = .ok (.ireturn, 1) := by decide +kernel
theorem dX8_property_53 : decode cX8_property 53 = .ok (.aload_n 0, 1) := by decide +kernel
theorem dX8_property_54 : decode cX8_property 54 = .ok (.iload_n 1, 1) := by decide +kernel
theorem dX8_property_55 : decode cX8_property 55 = .ok (.invokevirtual 91, 3) := by decide +kernel
theorem dX8_property_58 : decode cX8_property 58 = .ok (.ireturn, 1) := by decide +kernel
theorem dX8_property_59 : decode cX8_property 59 = .ok (.aload_n 0, 1) := by decide +kernel
theorem dX8_property_60 : decode cX8_property 60 = .ok (.iload_n 1, 1) := by decide +kernel
theorem dX8_property_61 : decode cX8_property 61 = .ok (.invokevirtual 91, 3) := by decide +kernel
theorem dX8_property_64 : decode cX8_property 64 = .ok (.aload_n 0, 1) := by decide +kernel
theorem dX8_property_65 : decode cX8_property 65 = .ok (.getfield 7, 3) := by decide +kernel
theorem dX8_property_68 : decode cX8_property 68 = .ok (.sipush 149, 3) := by decide +kernel
theorem dX8_property_71 : decode cX8_property 71 = .ok (.iaload, 1) := by decide +kernel
theorem dX8_property_72 : decode cX8_property 72 = .ok (.if_icmp .lt 7, 3) := by decide +kernel
theorem dX8_property_75 : decode cX8_property 75 = .ok (.iconst 1, 1) := by decide +kernel
theorem dX8_property_76 : decode cX8_property 76 = .ok (.goto 4, 3) := by decide +kernel
theorem dX8_property_79 : decode cX8_property 79 = .ok (.iconst 0, 1) := by decide +kernel
theorem dX8_property_80 : decode cX8_property 80 = .ok (.ireturn, 1) := by decide +kernel
theorem dX8_property_81 : decode cX8_property 81 = .ok (.aload_n 0, 1) := by decide +kernel
theorem dX8_property_82 : decode cX8_property 82 = .ok (.iload_n 1, 1) := by decide +kernel
theorem dX8_property_83 : decode cX8_property 83 = .ok (.invokevirtual 104, 3) := by decide +kernel
theorem dX8_property_86 : decode cX8_property 86 = .ok (.ifCond .eq 7, 3) := by decide +kernel
theorem dX8_property_89 : decode cX8_property 89 = .ok (.iconst 1, 1) := by decide +kernel
theorem dX8_property_90 : decode cX8_property 90 = .ok (.goto 4, 3) := by decide +kernel
theorem dX8_property_93 : decode cX8_property 93 = .ok (.iconst 0, 1) := by decide +kernel
theorem dX8_property_94 : decode cX8_property 94 = .ok (.ireturn, 1) := by decide +kernel
theorem dX8_property_95 : decode cX8_property 95 = .ok (.aload_n 0, 1) := by decide +kernel
theorem dX8_property_96 : decode cX8_property 96 = .ok (.getfield 7, 3) := by decide +kernel
theorem dX8_property_99 : decode cX8_property 99 = .ok (.bipush 64, 2) := by decide +kernel
theorem dX8_property_101 : decode cX8_property 101 = .ok (.iload_n 1, 1) := by decide +kernel
theorem dX8_property_102 : decode cX8_property 102 = .ok (.iadd, 1) := by decide +kernel
theorem dX8_property_103 : decode cX8_property 103 = .ok (.iaload, 1) := by decide +kernel
theorem dX8_property_104 : decode cX8_property 104 = .ok (.ireturn, 1) := by decide +kernel
theorem dX8_property_105 : decode cX8_property 105 = .ok (.aload_n 0, 1) := by decide +kernel
theorem dX8_property_106 : decode cX8_property 106 = .ok (.iload_n 1, 1) := by decide +kernel
theorem dX8_property_107 : decode cX8_property 107 = .ok (.invokevirtual 161, 3) := by decide +kernel
theorem dX8_property_110 : decode cX8_property 110 = .ok (.ireturn, 1) := by decide +kernel
theorem dX8_property_111 : decode cX8_property 111 = .ok (.aload_n 0, 1) := by decide +kernel
theorem dX8_property_112 : decode cX8_property 112 = .ok (.iload_n 1, 1) := by decide +kernel
theorem dX8_property_113 : decode cX8_property 113 = .ok (.invokevirtual 113, 3) := by decide +kernel
theorem dX8_property_116 : decode cX8_property 116 = .ok (.ireturn, 1) := by decide +kernel
theorem dX8_property_117 : decode cX8_property 117 = .ok (.aload_n 0, 1) := by decide +kernel
theorem dX8_property_118 : decode cX8_property 118 = .ok (.iload_n 1, 1) := by decide +kernel
theorem dX8_property_119 : decode cX8_property 119 = .ok (.invokevirtual 164, 3) := by decide +kernel
theorem dX8_property_122 : decode cX8_property 122 = .ok (.ireturn, 1) := by decide +kernel
set_option maxRecDepth 20000 in
theorem ggX8_cell_X8_isCell : GoodIn wsX8_cell wsX8_isCell := goodIn_r _ [4, 5, 6, 3, 7] (by decide +kernel) (by decide +kernel)
set_option maxRecDepth 20000 in
theorem gX8_cell_X8_isCell : GoodIn wsX8_cell (va_wsS RX8 120 yX8_isCell wsX8_isCell) := goodIn_app (goodIn_of _ (by decide +kernel)) ggX8_cell_X8_isCell
set_option maxRecDepth 20000 in
theorem ggX8_cell_X8_in : GoodIn wsX8_cell wsX8_in := goodIn_r _ [7] (by decide +kernel) (by decide +kernel)
set_option maxRecDepth 20000 in
theorem gX8_cell_X8_in : GoodIn wsX8_cell (va_wsS RX8 37 yX8_in wsX8_in) := goodIn_app (goodIn_of _ (by decide +kernel)) ggX8_cell_X8_in
set_option maxRecDepth 20000 in
theorem ggX8_cell_X8_property : GoodIn wsX8_cell wsX8_property := goodIn_r _ [11, 12, 13, 14, 15, 3, 16, 17, 18, 19, 20, 21, 22, 23, 24, 25, 26, 27, 28, 29, 30, 31, 32, 33, 5, 6, 7, 34, 35, 36, 37, 38, 39, 40, 41, 42, 43, 44, 45, 46, 47, 48, 49, 50, 51, 52, 53, 54, 55, 56, 57, 58, 59, 60, 61, 62, 63, 64, 65, 66, 67, 68, 69, 70, 71, 72, 73, 74, 75, 76, 77, 78, 79, 80, 81, 82, 83, 84, 85, 86, 87] (by decide +kernel) (by decide +kernel)
set_option maxRecDepth 20000 in
theorem gX8_cell_X8_property : GoodIn wsX8_cell (wsV RX8 167 RX8 yX8_property wsX8_property) := goodIn_app (goodIn_of _ (by decide +kernel)) ggX8_cell_X8_property
theorem dX8_cell_0 : decode cX8_cell 0 = .ok (.iload_n 1, 1) := by decide +kernel
theorem dX8_cell_1 : decode cX8_cell 1 = .ok (.invokestatic 120, 3) := by decide +kernel
theorem dX8_cell_4 : decode cX8_cell 4 = .ok (.ifCond .eq 22, 3) := by decide +kernel
theorem dX8_cell_7 : decode cX8_cell 7 = .ok (.iload_n 2, 1) := by decide +kernel
theorem dX8_cell_8 : decode cX8_cell 8 = .ok (.iconst 0, 1) := by decide +kernel
theorem dX8_cell_9 : decode cX8_cell 9 = .ok (.bipush 7, 2) := by decide +kernel
theorem dX8_cell_11 : decode cX8_cell 11 = .ok (.invokestatic 37, 3) := by decide +kernel
theorem dX8_cell_14 : decode cX8_cell 14 = .ok (.ifCond .eq 12, 3) := by decide +kernel
theorem dX8_cell_17 : decode cX8_cell 17 = .ok (.aload_n 0, 1) := by decide +kernel
theorem dX8_cell_18 : decode cX8_cell 18 = .ok (.iload_n 1, 1) := by decide +kernel
theorem dX8_cell_19 : decode cX8_cell 19 = .ok (.iload_n 2, 1) := by decide +kernel
theorem dX8_cell_20 : decode cX8_cell 20 = .ok (.invokevirtual 167, 3) := by decide +kernel
theorem dX8_cell_23 : decode cX8_cell 23 = .ok (.goto 4, 3) := by decide +kernel
theorem dX8_cell_26 : decode cX8_cell 26 = .ok (.iconst (-1), 1) := by decide +kernel
theorem dX8_cell_27 : decode cX8_cell 27 = .ok (.ireturn, 1) := by decide +kernel
set_option maxRecDepth 20000 in
theorem ggX8_sees_X8_isCell : GoodIn wsX8_sees wsX8_isCell := goodIn_r _ [4, 5, 6, 3, 7] (by decide +kernel) (by decide +kernel)
set_option maxRecDepth 20000 in
theorem gX8_sees_X8_isCell : GoodIn wsX8_sees (va_wsS RX8 120 yX8_isCell wsX8_isCell) := goodIn_app (goodIn_of _ (by decide +kernel)) ggX8_sees_X8_isCell
set_option maxRecDepth 20000 in
theorem ggX8_sees_X8_in : GoodIn wsX8_sees wsX8_in := goodIn_r _ [7] (by decide +kernel) (by decide +kernel)
set_option maxRecDepth 20000 in
theorem gX8_sees_X8_in : GoodIn wsX8_sees (va_wsS RX8 37 yX8_in wsX8_in) := goodIn_app (goodIn_of _ (by decide +kernel)) ggX8_sees_X8_in
set_option maxRecDepth 20000 in
theorem ggX8_sees_X8_isFree : GoodIn wsX8_sees wsX8_isFree := goodIn_r _ [11, 12, 13, 14, 3, 15, 16, 17, 18, 19, 20, 21, 5, 6, 7, 22, 23, 24, 25, 26, 27, 28, 29, 30, 31, 32, 33, 34, 35, 36, 37, 38, 39, 40, 41, 42, 43, 44, 45, 46, 47, 48, 49] (by decide +kernel) (by decide +kernel)
set_option maxRecDepth 20000 in
theorem gX8_sees_X8_isFree : GoodIn wsX8_sees (wsV RX8 81 RX8 yX8_isFree wsX8_isFree) := goodIn_app (goodIn_of _ (by decide +kernel)) ggX8_sees_X8_isFree
theorem dX8_sees_0 : decode cX8_sees 0 = .ok (.iload_n 1, 1) := by decide +kernel
theorem dX8_sees_1 : decode cX8_sees 1 = .ok (.invokestatic 120, 3) := by decide +kernel
theorem dX8_sees_4 : decode cX8_sees 4 = .ok (.ifCond .eq 19, 3) := by decide +kernel
theorem dX8_sees_7 : decode cX8_sees 7 = .ok (.iload_n 2, 1) := by decide +kernel
theorem dX8_sees_8 : decode cX8_sees 8 = .ok (.invokestatic 120, 3) := by decide +kernel
theorem dX8_sees_11 : decode cX8_sees 11 = .ok (.ifCond .eq 12, 3) := by decide +kernel
theorem dX8_sees_14 : decode cX8_sees 14 = .ok (.iload_n 3, 1) := by decide +kernel
theorem dX8_sees_15 : decode cX8_sees 15 = .ok (.iconst 0, 1) := by decide +kernel
theorem dX8_sees_16 : decode cX8_sees 16 = .ok (.iconst 1, 1) := by decide +kernel
theorem dX8_sees_17 : decode cX8_sees 17 = .ok (.invokestatic 37, 3) := by decide +kernel
theorem dX8_sees_20 : decode cX8_sees 20 = .ok (.ifCond .ne 5, 3) := by decide +kernel
theorem dX8_sees_23 : decode cX8_sees 23 = .ok (.iconst (-1), 1) := by decide +kernel
theorem dX8_sees_24 : decode cX8_sees 24 = .ok (.ireturn, 1) := by decide +kernel
theorem dX8_sees_25 : decode cX8_sees 25 = .ok (.aload_n 0, 1) := by decide +kernel
theorem dX8_sees_26 : decode cX8_sees 26 = .ok (.iload_n 1, 1) := by decide +kernel
theorem dX8_sees_27 : decode cX8_sees 27 = .ok (.iload_n 2, 1) := by decide +kernel
theorem dX8_sees_28 : decode cX8_sees 28 = .ok (.invokevirtual 81, 3) := by decide +kernel
theorem dX8_sees_31 : decode cX8_sees 31 = .ok (.ifCond .eq 7, 3) := by decide +kernel
theorem dX8_sees_34 : decode cX8_sees 34 = .ok (.iconst 1, 1) := by decide +kernel
theorem dX8_sees_35 : decode cX8_sees 35 = .ok (.goto 4, 3) := by decide +kernel
theorem dX8_sees_38 : decode cX8_sees 38 = .ok (.iconst 0, 1) := by decide +kernel
theorem dX8_sees_39 : decode cX8_sees 39 = .ok (.ireturn, 1) := by decide +kernel
set_option maxRecDepth 20000 in
theorem ggX8_steps_X8_size : GoodIn wsX8_steps wsX8_size := goodIn_r _ [4] (by decide +kernel) (by decide +kernel)
set_option maxRecDepth 20000 in
theorem gX8_steps_X8_size : GoodIn wsX8_steps (va_wsS RX8 98 yX8_size wsX8_size) := goodIn_app (goodIn_of _ (by decide +kernel)) ggX8_steps_X8_size
theorem dX8_steps_0 : decode cX8_steps 0 = .ok (.iload_n 0, 1) := by decide +kernel
theorem dX8_steps_1 : decode cX8_steps 1 = .ok (.bipush 8, 2) := by decide +kernel
theorem dX8_steps_3 : decode cX8_steps 3 = .ok (.idiv, 1) := by decide +kernel
theorem dX8_steps_4 : decode cX8_steps 4 = .ok (.iload_n 1, 1) := by decide +kernel
theorem dX8_steps_5 : decode cX8_steps 5 = .ok (.bipush 8, 2) := by decide +kernel
theorem dX8_steps_7 : decode cX8_steps 7 = .ok (.idiv, 1) := by decide +kernel
theorem dX8_steps_8 : decode cX8_steps 8 = .ok (.isub, 1) := by decide +kernel
theorem dX8_steps_9 : decode cX8_steps 9 = .ok (.invokestatic 98, 3) := by decide +kernel
theorem dX8_steps_12 : decode cX8_steps 12 = .ok (.iload_n 0, 1) := by decide +kernel
theorem dX8_steps_13 : decode cX8_steps 13 = .ok (.bipush 8, 2) := by decide +kernel
theorem dX8_steps_15 : decode cX8_steps 15 = .ok (.irem, 1) := by decide +kernel
theorem dX8_steps_16 : decode cX8_steps 16 = .ok (.iload_n 1, 1) := by decide +kernel
theorem dX8_steps_17 : decode cX8_steps 17 = .ok (.bipush 8, 2) := by decide +kernel
theorem dX8_steps_19 : decode cX8_steps 19 = .ok (.irem, 1) := by decide +kernel
theorem dX8_steps_20 : decode cX8_steps 20 = .ok (.isub, 1) := by decide +kernel
theorem dX8_steps_21 : decode cX8_steps 21 = .ok (.invokestatic 98, 3) := by decide +kernel
theorem dX8_steps_24 : decode cX8_steps 24 = .ok (.iadd, 1) := by decide +kernel
theorem dX8_steps_25 : decode cX8_steps 25 = .ok (.ireturn, 1) := by decide +kernel
set_option maxRecDepth 20000 in
theorem ggX8_stops_X8_isCell : GoodIn wsX8_stops wsX8_isCell := goodIn_r _ [5, 6, 7, 4, 8] (by decide +kernel) (by decide +kernel)
set_option maxRecDepth 20000 in
theorem gX8_stops_X8_isCell : GoodIn wsX8_stops (va_wsS RX8 120 yX8_isCell wsX8_isCell) := goodIn_app (goodIn_of _ (by decide +kernel)) ggX8_stops_X8_isCell
set_option maxRecDepth 20000 in
theorem ggX8_stops_X8_isDark : GoodIn wsX8_stops wsX8_isDark := goodIn_r _ [11] (by decide +kernel) (by decide +kernel)
set_option maxRecDepth 20000 in
theorem gX8_stops_X8_isDark : GoodIn wsX8_stops (va_wsS RX8 59 yX8_isDark wsX8_isDark) := goodIn_app (goodIn_of _ (by decide +kernel)) ggX8_stops_X8_isDark
set_option maxRecDepth 20000 in
theorem ggX8_stops_X8_goesThrough : GoodIn wsX8_stops wsX8_goesThrough := goodIn_r _ [14, 15, 16, 4, 17, 6, 7, 8, 18, 19, 20] (by decide +kernel) (by decide +kernel)
set_option maxRecDepth 20000 in
theorem gX8_stops_X8_goesThrough : GoodIn wsX8_stops (va_wsS RX8 74 yX8_goesThrough wsX8_goesThrough) := goodIn_app (goodIn_of _ (by decide +kernel)) ggX8_stops_X8_goesThrough
set_option maxRecDepth 20000 in
theorem ggX8_stops_X8_steps : GoodIn wsX8_stops wsX8_steps := goodIn_r _ [23, 24, 25, 4, 26] (by decide +kernel) (by decide +kernel)
set_option maxRecDepth 20000 in
theorem gX8_stops_X8_steps : GoodIn wsX8_stops (va_wsS RX8 170 yX8_steps wsX8_steps) := goodIn_app (goodIn_of _ (by decide +kernel)) ggX8_stops_X8_steps
theorem dX8_stops_0 : decode cX8_stops 0 = .ok (.iload_n 1, 1) := by decide +kernel
theorem dX8_stops_1 : decode cX8_stops 1 = .ok (.invokestatic 120, 3) := by decide +kernel
theorem dX8_stops_4 : decode cX8_stops 4 = .ok (.ifCond .eq 10, 3) := by decide +kernel
theorem dX8_stops_7 : decode cX8_stops 7 = .ok (.iload_n 2, 1) := by decide +kernel
theorem dX8_stops_8 : decode cX8_stops 8 = .ok (.invokestatic 120, 3) := by decide +kernel
theorem dX8_stops_11 : decode cX8_stops 11 = .ok (.ifCond .ne 5, 3) := by decide +kernel
theorem dX8_stops_14 : decode cX8_stops 14 = .ok (.iconst (-1), 1) := by decide +kernel
theorem dX8_stops_15 : decode cX8_stops 15 = .ok (.ireturn, 1) := by decide +kernel
theorem dX8_stops_16 : decode cX8_stops 16 = .ok (.bipush (-4), 2) := by decide +kernel
theorem dX8_stops_18 : decode cX8_stops 18 = .ok (.istore_n 3, 1) := by decide +kernel
theorem dX8_stops_19 : decode cX8_stops 19 = .ok (.iconst 0, 1) := by decide +kernel
theorem dX8_stops_20 : decode cX8_stops 20 = .ok (.istore 4, 2) := by decide +kernel
theorem dX8_stops_22 : decode cX8_stops 22 = .ok (.iload 4, 2) := by decide +kernel
theorem dX8_stops_24 : decode cX8_stops 24 = .ok (.bipush 64, 2) := by decide +kernel
theorem dX8_stops_26 : decode cX8_stops 26 = .ok (.if_icmp .ge 73, 3) := by decide +kernel
theorem dX8_stops_29 : decode cX8_stops 29 = .ok (.aload_n 0, 1) := by decide +kernel
theorem dX8_stops_30 : decode cX8_stops 30 = .ok (.getfield 7, 3) := by decide +kernel
theorem dX8_stops_33 : decode cX8_stops 33 = .ok (.iconst 0, 1) := by decide +kernel
theorem dX8_stops_34 : decode cX8_stops 34 = .ok (.iload 4, 2) := by decide +kernel
theorem dX8_stops_36 : decode cX8_stops 36 = .ok (.iadd, 1) := by decide +kernel
theorem dX8_stops_37 : decode cX8_stops 37 = .ok (.iaload, 1) := by decide +kernel
theorem dX8_stops_38 : decode cX8_stops 38 = .ok (.invokestatic 59, 3) := by decide +kernel
theorem dX8_stops_41 : decode cX8_stops 41 = .ok (.ifCond .eq 17, 3) := by decide +kernel
theorem dX8_stops_44 : decode cX8_stops 44 = .ok (.iload_n 1, 1) := by decide +kernel
theorem dX8_stops_45 : decode cX8_stops 45 = .ok (.iload_n 2, 1) := by decide +kernel
theorem dX8_stops_46 : decode cX8_stops 46 = .ok (.iload 4, 2) := by decide +kernel
theorem dX8_stops_48 : decode cX8_stops 48 = .ok (.invokestatic 74, 3) := by decide +kernel
theorem dX8_stops_51 : decode cX8_stops 51 = .ok (.ifCond .eq 7, 3) := by decide +kernel
theorem dX8_stops_54 : decode cX8_stops 54 = .ok (.iconst 1, 1) := by decide +kernel
theorem dX8_stops_55 : decode cX8_stops 55 = .ok (.goto 4, 3) := by decide +kernel
theorem dX8_stops_58 : decode cX8_stops 58 = .ok (.iconst 0, 1) := by decide +kernel
theorem dX8_stops_59 : decode cX8_stops 59 = .ok (.istore 5, 2) := by decide +kernel
theorem dX8_stops_61 : decode cX8_stops 61 = .ok (.iload 5, 2) := by decide +kernel
theorem dX8_stops_63 : decode cX8_stops 63 = .ok (.ifCond .eq 28, 3) := by decide +kernel
theorem dX8_stops_66 : decode cX8_stops 66 = .ok (.iload_n 3, 1) := by decide +kernel
theorem dX8_stops_67 : decode cX8_stops 67 = .ok (.bipush (-4), 2) := by decide +kernel
theorem dX8_stops_69 : decode cX8_stops 69 = .ok (.if_icmp .eq 17, 3) := by decide +kernel
theorem dX8_stops_72 : decode cX8_stops 72 = .ok (.iload_n 1, 1) := by decide +kernel
theorem dX8_stops_73 : decode cX8_stops 73 = .ok (.iload 4, 2) := by decide +kernel
theorem dX8_stops_75 : decode cX8_stops 75 = .ok (.invokestatic 170, 3) := by decide +kernel
theorem dX8_stops_78 : decode cX8_stops 78 = .ok (.iload_n 1, 1) := by decide +kernel
theorem dX8_stops_79 : decode cX8_stops 79 = .ok (.iload_n 3, 1) := by decide +kernel
theorem dX8_stops_80 : decode cX8_stops 80 = .ok (.invokestatic 170, 3) := by decide +kernel
theorem dX8_stops_83 : decode cX8_stops 83 = .ok (.if_icmp .ge 8, 3) := by decide +kernel
theorem dX8_stops_86 : decode cX8_stops 86 = .ok (.iload 4, 2) := by decide +kernel
theorem dX8_stops_88 : decode cX8_stops 88 = .ok (.goto 4, 3) := by decide +kernel
theorem dX8_stops_91 : decode cX8_stops 91 = .ok (.iload_n 3, 1) := by decide +kernel
theorem dX8_stops_92 : decode cX8_stops 92 = .ok (.istore_n 3, 1) := by decide +kernel
theorem dX8_stops_93 : decode cX8_stops 93 = .ok (.iinc 4 1, 3) := by decide +kernel
theorem dX8_stops_96 : decode cX8_stops 96 = .ok (.goto (-74), 3) := by decide +kernel
theorem dX8_stops_99 : decode cX8_stops 99 = .ok (.iload_n 3, 1) := by decide +kernel
theorem dX8_stops_100 : decode cX8_stops 100 = .ok (.ireturn, 1) := by decide +kernel
set_option maxRecDepth 20000 in
theorem ggX8_cellsOf_X8_given : GoodIn wsX8_cellsOf wsX8_given := goodIn_r _ [5, 6, 7, 8, 9, 4, 10, 11, 12, 13, 14, 15, 16, 17, 18, 19, 20, 21, 22, 23, 24, 25, 26, 27, 28, 29, 30, 31, 32, 33, 34, 35, 36, 37, 38, 39, 40, 41, 42, 43, 44, 45, 46, 47, 48, 49, 50, 51, 52, 53] (by decide +kernel) (by decide +kernel)
set_option maxRecDepth 20000 in
theorem gX8_cellsOf_X8_given : GoodIn wsX8_cellsOf (wsV RX8 88 RX8 yX8_given wsX8_given) := goodIn_app (goodIn_of _ (by decide +kernel)) ggX8_cellsOf_X8_given
theorem dX8_cellsOf_0 : decode cX8_cellsOf 0 = .ok (.iconst 0, 1) := by decide +kernel
theorem dX8_cellsOf_1 : decode cX8_cellsOf 1 = .ok (.istore_n 2, 1) := by decide +kernel
theorem dX8_cellsOf_2 : decode cX8_cellsOf 2 = .ok (.iconst 0, 1) := by decide +kernel
theorem dX8_cellsOf_3 : decode cX8_cellsOf 3 = .ok (.istore_n 3, 1) := by decide +kernel
theorem dX8_cellsOf_4 : decode cX8_cellsOf 4 = .ok (.iload_n 3, 1) := by decide +kernel
theorem dX8_cellsOf_5 : decode cX8_cellsOf 5 = .ok (.bipush 64, 2) := by decide +kernel
theorem dX8_cellsOf_7 : decode cX8_cellsOf 7 = .ok (.if_icmp .ge 26, 3) := by decide +kernel
theorem dX8_cellsOf_10 : decode cX8_cellsOf 10 = .ok (.iload_n 2, 1) := by decide +kernel
theorem dX8_cellsOf_11 : decode cX8_cellsOf 11 = .ok (.aload_n 0, 1) := by decide +kernel
theorem dX8_cellsOf_12 : decode cX8_cellsOf 12 = .ok (.iload_n 1, 1) := by decide +kernel
theorem dX8_cellsOf_13 : decode cX8_cellsOf 13 = .ok (.iload_n 3, 1) := by decide +kernel
theorem dX8_cellsOf_14 : decode cX8_cellsOf 14 = .ok (.invokevirtual 88, 3) := by decide +kernel
theorem dX8_cellsOf_17 : decode cX8_cellsOf 17 = .ok (.ifCond .le 7, 3) := by decide +kernel
theorem dX8_cellsOf_20 : decode cX8_cellsOf 20 = .ok (.iconst 1, 1) := by decide +kernel
theorem dX8_cellsOf_21 : decode cX8_cellsOf 21 = .ok (.goto 4, 3) := by decide +kernel
theorem dX8_cellsOf_24 : decode cX8_cellsOf 24 = .ok (.iconst 0, 1) := by decide +kernel
theorem dX8_cellsOf_25 : decode cX8_cellsOf 25 = .ok (.iadd, 1) := by decide +kernel
theorem dX8_cellsOf_26 : decode cX8_cellsOf 26 = .ok (.istore_n 2, 1) := by decide +kernel
theorem dX8_cellsOf_27 : decode cX8_cellsOf 27 = .ok (.iinc 3 1, 3) := by decide +kernel
theorem dX8_cellsOf_30 : decode cX8_cellsOf 30 = .ok (.goto (-26), 3) := by decide +kernel
theorem dX8_cellsOf_33 : decode cX8_cellsOf 33 = .ok (.iload_n 2, 1) := by decide +kernel
theorem dX8_cellsOf_34 : decode cX8_cellsOf 34 = .ok (.ireturn, 1) := by decide +kernel
set_option maxRecDepth 20000 in
theorem ggX8_litOnlyBy_X8_lightAt : GoodIn wsX8_litOnlyBy wsX8_lightAt := goodIn_r _ [6, 1, 7, 8, 9, 5, 10, 11, 12, 13, 14, 15, 16, 17, 18, 19, 20, 21, 22, 23, 24, 25, 26, 27, 28, 29, 30, 31, 32, 33, 34, 35, 36, 37, 38, 39, 40, 41, 42, 43, 44, 45, 46, 47, 48, 49, 50, 51, 52, 53, 54, 55, 56, 57] (by decide +kernel) (by decide +kernel)
set_option maxRecDepth 20000 in
theorem gX8_litOnlyBy_X8_lightAt : GoodIn wsX8_litOnlyBy (wsV RX8 91 RX8 yX8_lightAt wsX8_lightAt) := goodIn_app (goodIn_of _ (by decide +kernel)) ggX8_litOnlyBy_X8_lightAt
set_option maxRecDepth 20000 in
theorem ggX8_litOnlyBy_X8_given : GoodIn wsX8_litOnlyBy wsX8_given := goodIn_r _ [10, 1, 11, 12, 13, 5, 14, 15, 16, 17, 18, 19, 20, 21, 22, 23, 24, 25, 26, 27, 28, 29, 30, 31, 32, 33, 34, 35, 36, 37, 38, 39, 40, 41, 42, 43, 44, 45, 46, 47, 48, 49, 50, 51, 52, 53, 54, 55, 56, 57] (by decide +kernel) (by decide +kernel)
set_option maxRecDepth 20000 in
theorem gX8_litOnlyBy_X8_given : GoodIn wsX8_litOnlyBy (wsV RX8 88 RX8 yX8_given wsX8_given) := goodIn_app (goodIn_of _ (by decide +kernel)) ggX8_litOnlyBy_X8_given
theorem dX8_litOnlyBy_0 : decode cX8_litOnlyBy 0 = .ok (.iconst 0, 1) := by decide +kernel
theorem dX8_litOnlyBy_1 : decode cX8_litOnlyBy 1 = .ok (.istore_n 2, 1) := by decide +kernel
theorem dX8_litOnlyBy_2 : decode cX8_litOnlyBy 2 = .ok (.iconst 0, 1) := by decide +kernel
theorem dX8_litOnlyBy_3 : decode cX8_litOnlyBy 3 = .ok (.istore_n 3, 1) := by decide +kernel
theorem dX8_litOnlyBy_4 : decode cX8_litOnlyBy 4 = .ok (.iload_n 3, 1) := by decide +kernel
theorem dX8_litOnlyBy_5 : decode cX8_litOnlyBy 5 = .ok (.bipush 64, 2) := by decide +kernel
theorem dX8_litOnlyBy_7 : decode cX8_litOnlyBy 7 = .ok (.if_icmp .ge 57, 3) := by decide +kernel
theorem dX8_litOnlyBy_10 : decode cX8_litOnlyBy 10 = .ok (.aload_n 0, 1) := by decide +kernel
theorem dX8_litOnlyBy_11 : decode cX8_litOnlyBy 11 = .ok (.iload_n 3, 1) := by decide +kernel
theorem dX8_litOnlyBy_12 : decode cX8_litOnlyBy 12 = .ok (.invokevirtual 91, 3) := by decide +kernel
theorem dX8_litOnlyBy_15 : decode cX8_litOnlyBy 15 = .ok (.istore 4, 2) := by decide +kernel
theorem dX8_litOnlyBy_17 : decode cX8_litOnlyBy 17 = .ok (.iload_n 2, 1) := by decide +kernel
theorem dX8_litOnlyBy_18 : decode cX8_litOnlyBy 18 = .ok (.iload 4, 2) := by decide +kernel
theorem dX8_litOnlyBy_20 : decode cX8_litOnlyBy 20 = .ok (.aload_n 0, 1) := by decide +kernel
theorem dX8_litOnlyBy_21 : decode cX8_litOnlyBy 21 = .ok (.getfield 7, 3) := by decide +kernel
theorem dX8_litOnlyBy_24 : decode cX8_litOnlyBy 24 = .ok (.sipush 149, 3) := by decide +kernel
theorem dX8_litOnlyBy_27 : decode cX8_litOnlyBy 27 = .ok (.iaload, 1) := by decide +kernel
theorem dX8_litOnlyBy_28 : decode cX8_litOnlyBy 28 = .ok (.if_icmp .lt 27, 3) := by decide +kernel
theorem dX8_litOnlyBy_31 : decode cX8_litOnlyBy 31 = .ok (.iload 4, 2) := by decide +kernel
theorem dX8_litOnlyBy_33 : decode cX8_litOnlyBy 33 = .ok (.aload_n 0, 1) := by decide +kernel
theorem dX8_litOnlyBy_34 : decode cX8_litOnlyBy 34 = .ok (.iload_n 1, 1) := by decide +kernel
theorem dX8_litOnlyBy_35 : decode cX8_litOnlyBy 35 = .ok (.iload_n 3, 1) := by decide +kernel
theorem dX8_litOnlyBy_36 : decode cX8_litOnlyBy 36 = .ok (.invokevirtual 88, 3) := by decide +kernel
theorem dX8_litOnlyBy_39 : decode cX8_litOnlyBy 39 = .ok (.isub, 1) := by decide +kernel
theorem dX8_litOnlyBy_40 : decode cX8_litOnlyBy 40 = .ok (.aload_n 0, 1) := by decide +kernel
theorem dX8_litOnlyBy_41 : decode cX8_litOnlyBy 41 = .ok (.getfield 7, 3) := by decide +kernel
theorem dX8_litOnlyBy_44 : decode cX8_litOnlyBy 44 = .ok (.sipush 149, 3) := by decide +kernel
theorem dX8_litOnlyBy_47 : decode cX8_litOnlyBy 47 = .ok (.iaload, 1) := by decide +kernel
theorem dX8_litOnlyBy_48 : decode cX8_litOnlyBy 48 = .ok (.if_icmp .ge 7, 3) := by decide +kernel
theorem dX8_litOnlyBy_51 : decode cX8_litOnlyBy 51 = .ok (.iconst 1, 1) := by decide +kernel
theorem dX8_litOnlyBy_52 : decode cX8_litOnlyBy 52 = .ok (.goto 4, 3) := by decide +kernel
theorem dX8_litOnlyBy_55 : decode cX8_litOnlyBy 55 = .ok (.iconst 0, 1) := by decide +kernel
theorem dX8_litOnlyBy_56 : decode cX8_litOnlyBy 56 = .ok (.iadd, 1) := by decide +kernel
theorem dX8_litOnlyBy_57 : decode cX8_litOnlyBy 57 = .ok (.istore_n 2, 1) := by decide +kernel
theorem dX8_litOnlyBy_58 : decode cX8_litOnlyBy 58 = .ok (.iinc 3 1, 3) := by decide +kernel
theorem dX8_litOnlyBy_61 : decode cX8_litOnlyBy 61 = .ok (.goto (-57), 3) := by decide +kernel
theorem dX8_litOnlyBy_64 : decode cX8_litOnlyBy 64 = .ok (.iload_n 2, 1) := by decide +kernel
theorem dX8_litOnlyBy_65 : decode cX8_litOnlyBy 65 = .ok (.ireturn, 1) := by decide +kernel
set_option maxRecDepth 20000 in
theorem ggX8_lampOf_X8_isLamp : GoodIn wsX8_lampOf wsX8_isLamp := goodIn_r _ [6, 1, 7, 8, 5, 9, 59, 60, 61, 62, 63, 64, 65, 66, 67, 68, 69] (by decide +kernel) (by decide +kernel)
set_option maxRecDepth 20000 in
theorem gX8_lampOf_X8_isLamp : GoodIn wsX8_lampOf (wsV RX8 133 RX8 yX8_isLamp wsX8_isLamp) := goodIn_app (goodIn_of _ (by decide +kernel)) ggX8_lampOf_X8_isLamp
set_option maxRecDepth 20000 in
theorem ggX8_lampOf_X8_cellsOf : GoodIn wsX8_lampOf wsX8_cellsOf := goodIn_r _ [13, 14, 15, 16, 5, 17, 1, 18, 19, 20, 21, 22, 23, 24, 25, 26, 27, 28, 29, 30, 7, 8, 9, 31, 32, 33, 34, 35, 36, 37, 38, 39, 40, 41, 42, 43, 44, 45, 46, 47, 48, 49, 50, 59, 60, 61, 62, 63, 64, 65, 66, 67, 68, 69] (by decide +kernel) (by decide +kernel)
set_option maxRecDepth 20000 in
theorem gX8_lampOf_X8_cellsOf : GoodIn wsX8_lampOf (wsV RX8 173 RX8 yX8_cellsOf wsX8_cellsOf) := goodIn_app (goodIn_of _ (by decide +kernel)) ggX8_lampOf_X8_cellsOf
set_option maxRecDepth 20000 in
theorem ggX8_lampOf_X8_litOnlyBy : GoodIn wsX8_lampOf wsX8_litOnlyBy := goodIn_r _ [54, 1, 55, 56, 57, 5, 58, 14, 15, 16, 17, 18, 19, 20, 21, 22, 23, 24, 25, 26, 27, 28, 29, 30, 7, 8, 9, 31, 32, 33, 34, 35, 36, 37, 38, 39, 40, 41, 42, 43, 44, 45, 46, 47, 48, 49, 50, 59, 60, 61, 62, 63, 64, 65, 66, 67, 68, 69] (by decide +kernel) (by decide +kernel)
set_option maxRecDepth 20000 in
theorem gX8_lampOf_X8_litOnlyBy : GoodIn wsX8_lampOf (wsV RX8 176 RX8 yX8_litOnlyBy wsX8_litOnlyBy) := goodIn_app (goodIn_of _ (by decide +kernel)) ggX8_lampOf_X8_litOnlyBy
theorem dX8_lampOf_0 : decode cX8_lampOf 0 = .ok (.aload_n 0, 1) := by decide +kernel
theorem dX8_lampOf_1 : decode cX8_lampOf 1 = .ok (.iload_n 1, 1) := by decide +kernel
theorem dX8_lampOf_2 : decode cX8_lampOf 2 = .ok (.invokevirtual 133, 3) := by decide +kernel
theorem dX8_lampOf_5 : decode cX8_lampOf 5 = .ok (.ifCond .ne 5, 3) := by decide +kernel
theorem dX8_lampOf_8 : decode cX8_lampOf 8 = .ok (.iconst (-1), 1) := by decide +kernel
theorem dX8_lampOf_9 : decode cX8_lampOf 9 = .ok (.ireturn, 1) := by decide +kernel
theorem dX8_lampOf_10 : decode cX8_lampOf 10 = .ok (.iload_n 2, 1) := by decide +kernel
theorem dX8_lampOf_11 : decode cX8_lampOf 11 = .ok (.tableswitch 78 0 4 #[33, 44, 55, 61, 67], 33) := by decide +kernel
theorem dX8_lampOf_44 : decode cX8_lampOf 44 = .ok (.aload_n 0, 1) := by decide +kernel
theorem dX8_lampOf_45 : decode cX8_lampOf 45 = .ok (.getfield 7, 3) := by decide +kernel
theorem dX8_lampOf_48 : decode cX8_lampOf 48 = .ok (.sipush 129, 3) := by decide +kernel
theorem dX8_lampOf_51 : decode cX8_lampOf 51 = .ok (.iload_n 1, 1) := by decide +kernel
theorem dX8_lampOf_52 : decode cX8_lampOf 52 = .ok (.iadd, 1) := by decide +kernel
theorem dX8_lampOf_53 : decode cX8_lampOf 53 = .ok (.iaload, 1) := by decide +kernel
theorem dX8_lampOf_54 : decode cX8_lampOf 54 = .ok (.ireturn, 1) := by decide +kernel
theorem dX8_lampOf_55 : decode cX8_lampOf 55 = .ok (.aload_n 0, 1) := by decide +kernel
theorem dX8_lampOf_56 : decode cX8_lampOf 56 = .ok (.getfield 7, 3) := by decide +kernel
theorem dX8_lampOf_59 : decode cX8_lampOf 59 = .ok (.sipush 135, 3) := by decide +kernel
theorem dX8_lampOf_62 : decode cX8_lampOf 62 = .ok (.iload_n 1, 1) := by decide +kernel
theorem dX8_lampOf_63 : decode cX8_lampOf 63 = .ok (.iadd, 1) := by decide +kernel
theorem dX8_lampOf_64 : decode cX8_lampOf 64 = .ok (.iaload, 1) := by decide +kernel
theorem dX8_lampOf_65 : decode cX8_lampOf 65 = .ok (.ireturn, 1) := by decide +kernel
theorem dX8_lampOf_66 : decode cX8_lampOf 66 = .ok (.aload_n 0, 1) := by decide +kernel
theorem dX8_lampOf_67 : decode cX8_lampOf 67 = .ok (.iload_n 1, 1) := by decide +kernel
theorem dX8_lampOf_68 : decode cX8_lampOf 68 = .ok (.invokevirtual 173, 3) := by decide +kernel
theorem dX8_lampOf_71 : decode cX8_lampOf 71 = .ok (.ireturn, 1) := by decide +kernel
theorem dX8_lampOf_72 : decode cX8_lampOf 72 = .ok (.aload_n 0, 1) := by decide +kernel
theorem dX8_lampOf_73 : decode cX8_lampOf 73 = .ok (.iload_n 1, 1) := by decide +kernel
theorem dX8_lampOf_74 : decode cX8_lampOf 74 = .ok (.invokevirtual 176, 3) := by decide +kernel
theorem dX8_lampOf_77 : decode cX8_lampOf 77 = .ok (.ireturn, 1) := by decide +kernel
theorem dX8_lampOf_78 : decode cX8_lampOf 78 = .ok (.aload_n 0, 1) := by decide +kernel
theorem dX8_lampOf_79 : decode cX8_lampOf 79 = .ok (.getfield 7, 3) := by decide +kernel
theorem dX8_lampOf_82 : decode cX8_lampOf 82 = .ok (.sipush 141, 3) := by decide +kernel
theorem dX8_lampOf_85 : decode cX8_lampOf 85 = .ok (.iload_n 1, 1) := by decide +kernel
theorem dX8_lampOf_86 : decode cX8_lampOf 86 = .ok (.iadd, 1) := by decide +kernel
theorem dX8_lampOf_87 : decode cX8_lampOf 87 = .ok (.iaload, 1) := by decide +kernel
theorem dX8_lampOf_88 : decode cX8_lampOf 88 = .ok (.ireturn, 1) := by decide +kernel
theorem dX8_lampOf_89 : decode cX8_lampOf 89 = .ok (.iconst (-1), 1) := by decide +kernel
theorem dX8_lampOf_90 : decode cX8_lampOf 90 = .ok (.ireturn, 1) := by decide +kernel
theorem dX8_kinds_0 : decode cX8_kinds 0 = .ok (.iconst 0, 1) := by decide +kernel
theorem dX8_kinds_1 : decode cX8_kinds 1 = .ok (.istore_n 2, 1) := by decide +kernel
theorem dX8_kinds_2 : decode cX8_kinds 2 = .ok (.iconst 0, 1) := by decide +kernel
theorem dX8_kinds_3 : decode cX8_kinds 3 = .ok (.istore_n 3, 1) := by decide +kernel
theorem dX8_kinds_4 : decode cX8_kinds 4 = .ok (.iload_n 3, 1) := by decide +kernel
theorem dX8_kinds_5 : decode cX8_kinds 5 = .ok (.bipush 64, 2) := by decide +kernel
theorem dX8_kinds_7 : decode cX8_kinds 7 = .ok (.if_icmp .ge 29, 3) := by decide +kernel
theorem dX8_kinds_10 : decode cX8_kinds 10 = .ok (.iload_n 2, 1) := by decide +kernel
theorem dX8_kinds_11 : decode cX8_kinds 11 = .ok (.aload_n 0, 1) := by decide +kernel
theorem dX8_kinds_12 : decode cX8_kinds 12 = .ok (.getfield 7, 3) := by decide +kernel
theorem dX8_kinds_15 : decode cX8_kinds 15 = .ok (.iconst 0, 1) := by decide +kernel
theorem dX8_kinds_16 : decode cX8_kinds 16 = .ok (.iload_n 3, 1) := by decide +kernel
theorem dX8_kinds_17 : decode cX8_kinds 17 = .ok (.iadd, 1) := by decide +kernel
theorem dX8_kinds_18 : decode cX8_kinds 18 = .ok (.iaload, 1) := by decide +kernel
theorem dX8_kinds_19 : decode cX8_kinds 19 = .ok (.iload_n 1, 1) := by decide +kernel
theorem dX8_kinds_20 : decode cX8_kinds 20 = .ok (.if_icmp .ne 7, 3) := by decide +kernel
theorem dX8_kinds_23 : decode cX8_kinds 23 = .ok (.iconst 1, 1) := by decide +kernel
theorem dX8_kinds_24 : decode cX8_kinds 24 = .ok (.goto 4, 3) := by decide +kernel
theorem dX8_kinds_27 : decode cX8_kinds 27 = .ok (.iconst 0, 1) := by decide +kernel
theorem dX8_kinds_28 : decode cX8_kinds 28 = .ok (.iadd, 1) := by decide +kernel
theorem dX8_kinds_29 : decode cX8_kinds 29 = .ok (.istore_n 2, 1) := by decide +kernel
theorem dX8_kinds_30 : decode cX8_kinds 30 = .ok (.iinc 3 1, 3) := by decide +kernel
theorem dX8_kinds_33 : decode cX8_kinds 33 = .ok (.goto (-29), 3) := by decide +kernel
theorem dX8_kinds_36 : decode cX8_kinds 36 = .ok (.iload_n 2, 1) := by decide +kernel
theorem dX8_kinds_37 : decode cX8_kinds 37 = .ok (.ireturn, 1) := by decide +kernel
set_option maxRecDepth 20000 in
theorem ggX8_allLight_X8_shine : GoodIn wsX8_allLight wsX8_shine := goodIn_r _ [6, 1, 7, 8, 9, 5, 10, 11, 12, 13, 14, 15, 16, 17, 18, 19, 20, 21, 22, 23, 24, 25, 26, 27, 28, 29, 30, 31, 32, 33, 34, 35, 36, 37, 38, 39, 40, 41, 42, 43, 44, 45, 46, 47, 48, 49, 50, 51, 52, 53, 54, 55, 56, 57, 58, 59, 60, 61, 62] (by decide +kernel) (by decide +kernel)
set_option maxRecDepth 20000 in
theorem gX8_allLight_X8_shine : GoodIn wsX8_allLight (wsV RX8 95 RX8 yX8_shine wsX8_shine) := goodIn_app (goodIn_of _ (by decide +kernel)) ggX8_allLight_X8_shine
theorem dX8_allLight_0 : decode cX8_allLight 0 = .ok (.aload_n 0, 1) := by decide +kernel
theorem dX8_allLight_1 : decode cX8_allLight 1 = .ok (.invokevirtual 95, 3) := by decide +kernel
theorem dX8_allLight_4 : decode cX8_allLight 4 = .ok (.iconst 0, 1) := by decide +kernel
theorem dX8_allLight_5 : decode cX8_allLight 5 = .ok (.istore_n 1, 1) := by decide +kernel
theorem dX8_allLight_6 : decode cX8_allLight 6 = .ok (.iconst 0, 1) := by decide +kernel
theorem dX8_allLight_7 : decode cX8_allLight 7 = .ok (.istore_n 2, 1) := by decide +kernel
theorem dX8_allLight_8 : decode cX8_allLight 8 = .ok (.iload_n 2, 1) := by decide +kernel
theorem dX8_allLight_9 : decode cX8_allLight 9 = .ok (.bipush 64, 2) := by decide +kernel
theorem dX8_allLight_11 : decode cX8_allLight 11 = .ok (.if_icmp .ge 18, 3) := by decide +kernel
theorem dX8_allLight_14 : decode cX8_allLight 14 = .ok (.iload_n 1, 1) := by decide +kernel
theorem dX8_allLight_15 : decode cX8_allLight 15 = .ok (.aload_n 0, 1) := by decide +kernel
theorem dX8_allLight_16 : decode cX8_allLight 16 = .ok (.getfield 22, 3) := by decide +kernel
theorem dX8_allLight_19 : decode cX8_allLight 19 = .ok (.iload_n 2, 1) := by decide +kernel
theorem dX8_allLight_20 : decode cX8_allLight 20 = .ok (.iaload, 1) := by decide +kernel
theorem dX8_allLight_21 : decode cX8_allLight 21 = .ok (.iadd, 1) := by decide +kernel
theorem dX8_allLight_22 : decode cX8_allLight 22 = .ok (.istore_n 1, 1) := by decide +kernel
theorem dX8_allLight_23 : decode cX8_allLight 23 = .ok (.iinc 2 1, 3) := by decide +kernel
theorem dX8_allLight_26 : decode cX8_allLight 26 = .ok (.goto (-18), 3) := by decide +kernel
theorem dX8_allLight_29 : decode cX8_allLight 29 = .ok (.iload_n 1, 1) := by decide +kernel
theorem dX8_allLight_30 : decode cX8_allLight 30 = .ok (.ireturn, 1) := by decide +kernel
set_option maxRecDepth 20000 in
theorem ggX8_brightest_X8_shine : GoodIn wsX8_brightest wsX8_shine := goodIn_r _ [6, 1, 7, 8, 9, 5, 10, 11, 12, 13, 14, 15, 16, 17, 18, 19, 20, 21, 22, 23, 24, 25, 26, 27, 28, 29, 30, 31, 32, 33, 34, 35, 36, 37, 38, 39, 40, 41, 42, 43, 44, 45, 46, 47, 48, 49, 50, 51, 52, 53, 54, 55, 56, 57, 58, 59, 60, 61, 62] (by decide +kernel) (by decide +kernel)
set_option maxRecDepth 20000 in
theorem gX8_brightest_X8_shine : GoodIn wsX8_brightest (wsV RX8 95 RX8 yX8_shine wsX8_shine) := goodIn_app (goodIn_of _ (by decide +kernel)) ggX8_brightest_X8_shine
theorem dX8_brightest_0 : decode cX8_brightest 0 = .ok (.aload_n 0, 1) := by decide +kernel
theorem dX8_brightest_1 : decode cX8_brightest 1 = .ok (.invokevirtual 95, 3) := by decide +kernel
theorem dX8_brightest_4 : decode cX8_brightest 4 = .ok (.iconst 0, 1) := by decide +kernel
theorem dX8_brightest_5 : decode cX8_brightest 5 = .ok (.istore_n 1, 1) := by decide +kernel
theorem dX8_brightest_6 : decode cX8_brightest 6 = .ok (.iconst 1, 1) := by decide +kernel
theorem dX8_brightest_7 : decode cX8_brightest 7 = .ok (.istore_n 2, 1) := by decide +kernel
theorem dX8_brightest_8 : decode cX8_brightest 8 = .ok (.iload_n 2, 1) := by decide +kernel
theorem dX8_brightest_9 : decode cX8_brightest 9 = .ok (.bipush 64, 2) := by decide +kernel
theorem dX8_brightest_11 : decode cX8_brightest 11 = .ok (.if_icmp .ge 30, 3) := by decide +kernel
theorem dX8_brightest_14 : decode cX8_brightest 14 = .ok (.aload_n 0, 1) := by decide +kernel
theorem dX8_brightest_15 : decode cX8_brightest 15 = .ok (.getfield 22, 3) := by decide +kernel
theorem dX8_brightest_18 : decode cX8_brightest 18 = .ok (.iload_n 2, 1) := by decide +kernel
theorem dX8_brightest_19 : decode cX8_brightest 19 = .ok (.iaload, 1) := by decide +kernel
theorem dX8_brightest_20 : decode cX8_brightest 20 = .ok (.aload_n 0, 1) := by decide +kernel
theorem dX8_brightest_21 : decode cX8_brightest 21 = .ok (.getfield 22, 3) := by decide +kernel
theorem dX8_brightest_24 : decode cX8_brightest 24 = .ok (.iload_n 1, 1) := by decide +kernel
theorem dX8_brightest_25 : decode cX8_brightest 25 = .ok (.iaload, 1) := by decide +kernel
theorem dX8_brightest_26 : decode cX8_brightest 26 = .ok (.if_icmp .le 7, 3) := by decide +kernel
theorem dX8_brightest_29 : decode cX8_brightest 29 = .ok (.iload_n 2, 1) := by decide +kernel
theorem dX8_brightest_30 : decode cX8_brightest 30 = .ok (.goto 4, 3) := by decide +kernel
theorem dX8_brightest_33 : decode cX8_brightest 33 = .ok (.iload_n 1, 1) := by decide +kernel
theorem dX8_brightest_34 : decode cX8_brightest 34 = .ok (.istore_n 1, 1) := by decide +kernel
theorem dX8_brightest_35 : decode cX8_brightest 35 = .ok (.iinc 2 1, 3) := by decide +kernel
theorem dX8_brightest_38 : decode cX8_brightest 38 = .ok (.goto (-30), 3) := by decide +kernel
theorem dX8_brightest_41 : decode cX8_brightest 41 = .ok (.iload_n 1, 1) := by decide +kernel
theorem dX8_brightest_42 : decode cX8_brightest 42 = .ok (.ireturn, 1) := by decide +kernel
set_option maxRecDepth 20000 in
theorem ggX8_reached_X8_lookFrom : GoodIn wsX8_reached wsX8_lookFrom := goodIn_r _ [7, 2, 8, 9, 10, 11, 6, 12, 13, 14, 15, 16, 17, 18, 19, 20, 1, 21, 22, 23, 24, 25, 26, 27, 28, 29, 30, 31, 32, 33, 34, 35, 36, 37, 38, 39, 40, 41, 42, 43, 44, 45, 46, 47, 48, 49, 50, 51, 52, 53, 54, 55, 56, 57, 58, 59, 60, 61, 62, 63, 64, 65, 66, 67, 68, 69, 70, 71, 72, 73, 74, 75, 76, 77, 78, 79, 80, 81, 82, 83, 84, 85] (by decide +kernel) (by decide +kernel)
set_option maxRecDepth 20000 in
theorem gX8_reached_X8_lookFrom : GoodIn wsX8_reached (wsV RX8 179 RX8 yX8_lookFrom wsX8_lookFrom) := goodIn_app (goodIn_of _ (by decide +kernel)) ggX8_reached_X8_lookFrom
theorem dX8_reached_0 : decode cX8_reached 0 = .ok (.aload_n 0, 1) := by decide +kernel
theorem dX8_reached_1 : decode cX8_reached 1 = .ok (.aload_n 0, 1) := by decide +kernel
theorem dX8_reached_2 : decode cX8_reached 2 = .ok (.getfield 7, 3) := by decide +kernel
theorem dX8_reached_5 : decode cX8_reached 5 = .ok (.sipush 147, 3) := by decide +kernel
theorem dX8_reached_8 : decode cX8_reached 8 = .ok (.iaload, 1) := by decide +kernel
theorem dX8_reached_9 : decode cX8_reached 9 = .ok (.invokevirtual 179, 3) := by decide +kernel
theorem dX8_reached_12 : decode cX8_reached 12 = .ok (.iconst 0, 1) := by decide +kernel
theorem dX8_reached_13 : decode cX8_reached 13 = .ok (.istore_n 1, 1) := by decide +kernel
theorem dX8_reached_14 : decode cX8_reached 14 = .ok (.iconst 0, 1) := by decide +kernel
theorem dX8_reached_15 : decode cX8_reached 15 = .ok (.istore_n 2, 1) := by decide +kernel
theorem dX8_reached_16 : decode cX8_reached 16 = .ok (.iload_n 2, 1) := by decide +kernel
theorem dX8_reached_17 : decode cX8_reached 17 = .ok (.bipush 64, 2) := by decide +kernel
theorem dX8_reached_19 : decode cX8_reached 19 = .ok (.if_icmp .ge 28, 3) := by decide +kernel
theorem dX8_reached_22 : decode cX8_reached 22 = .ok (.iload_n 1, 1) := by decide +kernel
theorem dX8_reached_23 : decode cX8_reached 23 = .ok (.aload_n 0, 1) := by decide +kernel
theorem dX8_reached_24 : decode cX8_reached 24 = .ok (.getfield 28, 3) := by decide +kernel
theorem dX8_reached_27 : decode cX8_reached 27 = .ok (.iload_n 2, 1) := by decide +kernel
theorem dX8_reached_28 : decode cX8_reached 28 = .ok (.iaload, 1) := by decide +kernel
theorem dX8_reached_29 : decode cX8_reached 29 = .ok (.bipush (-4), 2) := by decide +kernel
theorem dX8_reached_31 : decode cX8_reached 31 = .ok (.if_icmp .eq 7, 3) := by decide +kernel
theorem dX8_reached_34 : decode cX8_reached 34 = .ok (.iconst 1, 1) := by decide +kernel
theorem dX8_reached_35 : decode cX8_reached 35 = .ok (.goto 4, 3) := by decide +kernel
theorem dX8_reached_38 : decode cX8_reached 38 = .ok (.iconst 0, 1) := by decide +kernel
theorem dX8_reached_39 : decode cX8_reached 39 = .ok (.iadd, 1) := by decide +kernel
theorem dX8_reached_40 : decode cX8_reached 40 = .ok (.istore_n 1, 1) := by decide +kernel
theorem dX8_reached_41 : decode cX8_reached 41 = .ok (.iinc 2 1, 3) := by decide +kernel
theorem dX8_reached_44 : decode cX8_reached 44 = .ok (.goto (-28), 3) := by decide +kernel
theorem dX8_reached_47 : decode cX8_reached 47 = .ok (.iload_n 1, 1) := by decide +kernel
theorem dX8_reached_48 : decode cX8_reached 48 = .ok (.ireturn, 1) := by decide +kernel
set_option maxRecDepth 20000 in
theorem ggX8_count_X8_kinds : GoodIn wsX8_count wsX8_kinds := goodIn_r _ [8, 1, 116, 117, 118, 119, 120, 121, 122, 123, 124, 125, 126] (by decide +kernel) (by decide +kernel)
set_option maxRecDepth 20000 in
theorem gX8_count_X8_kinds : GoodIn wsX8_count (wsV RX8 182 RX8 yX8_kinds wsX8_kinds) := goodIn_app (goodIn_of _ (by decide +kernel)) ggX8_count_X8_kinds
set_option maxRecDepth 20000 in
theorem ggX8_count_X8_litCells : GoodIn wsX8_count wsX8_litCells := goodIn_r _ [12, 13, 1, 14, 15, 16, 7, 17, 18, 19, 20, 21, 22, 23, 24, 25, 26, 27, 28, 29, 30, 31, 32, 33, 34, 35, 36, 37, 38, 39, 40, 41, 42, 43, 44, 45, 46, 47, 48, 49, 50, 51, 52, 53, 54, 55, 56, 57, 58, 59, 60, 61, 116, 117, 118, 119, 120, 121, 122, 123, 124, 125, 126] (by decide +kernel) (by decide +kernel)
set_option maxRecDepth 20000 in
theorem gX8_count_X8_litCells : GoodIn wsX8_count (wsV RX8 185 RX8 yX8_litCells wsX8_litCells) := goodIn_app (goodIn_of _ (by decide +kernel)) ggX8_count_X8_litCells
set_option maxRecDepth 20000 in
theorem ggX8_count_X8_seenCells : GoodIn wsX8_count wsX8_seenCells := goodIn_r _ [65, 66, 67, 68, 7, 69, 1, 70, 71, 72, 73, 74, 75, 76, 18, 19, 20, 21, 22, 23, 24, 25, 26, 27, 28, 29, 30, 31, 32, 33, 34, 35, 36, 37, 38, 39, 40, 41, 42, 43, 44, 45, 46, 47, 48, 49, 50, 51, 52, 53, 54, 55, 56, 57, 58, 59, 60, 61, 116, 117, 118, 119, 120, 121, 122, 123, 124, 125, 126] (by decide +kernel) (by decide +kernel)
set_option maxRecDepth 20000 in
theorem gX8_count_X8_seenCells : GoodIn wsX8_count (wsV RX8 188 RX8 yX8_seenCells wsX8_seenCells) := goodIn_app (goodIn_of _ (by decide +kernel)) ggX8_count_X8_seenCells
set_option maxRecDepth 20000 in
theorem ggX8_count_X8_knownCells : GoodIn wsX8_count wsX8_knownCells := goodIn_r _ [80, 1, 116, 117, 118, 119, 120, 121, 122, 123, 124, 125, 126] (by decide +kernel) (by decide +kernel)
set_option maxRecDepth 20000 in
theorem gX8_count_X8_knownCells : GoodIn wsX8_count (wsV RX8 142 RX8 yX8_knownCells wsX8_knownCells) := goodIn_app (goodIn_of _ (by decide +kernel)) ggX8_count_X8_knownCells
set_option maxRecDepth 20000 in
theorem ggX8_count_X8_reached : GoodIn wsX8_count wsX8_reached := goodIn_r _ [84, 1, 85, 86, 87, 88, 7, 89, 13, 90, 91, 92, 93, 14, 15, 16, 17, 18, 19, 20, 21, 22, 23, 24, 25, 26, 27, 28, 29, 30, 31, 32, 33, 34, 35, 36, 37, 38, 39, 40, 41, 42, 43, 44, 45, 46, 47, 48, 49, 50, 51, 52, 53, 54, 55, 56, 57, 58, 59, 60, 61, 94, 95, 96, 97, 98, 99, 100, 101, 102, 103, 104, 105, 106, 107, 116, 117, 118, 119, 120, 121, 122, 123, 124, 125, 126] (by decide +kernel) (by decide +kernel)
set_option maxRecDepth 20000 in
theorem gX8_count_X8_reached : GoodIn wsX8_count (wsV RX8 191 RX8 yX8_reached wsX8_reached) := goodIn_app (goodIn_of _ (by decide +kernel)) ggX8_count_X8_reached
set_option maxRecDepth 20000 in
theorem ggX8_count_X8_allLight : GoodIn wsX8_count wsX8_allLight := goodIn_r _ [111, 13, 14, 15, 16, 7, 17, 18, 19, 20, 21, 1, 22, 23, 24, 25, 26, 27, 28, 29, 30, 31, 32, 33, 34, 35, 36, 37, 38, 39, 40, 41, 42, 43, 44, 45, 46, 47, 48, 49, 50, 51, 52, 53, 54, 55, 56, 57, 58, 59, 60, 61, 116, 117, 118, 119, 120, 121, 122, 123, 124, 125, 126] (by decide +kernel) (by decide +kernel)
set_option maxRecDepth 20000 in
theorem gX8_count_X8_allLight : GoodIn wsX8_count (wsV RX8 194 RX8 yX8_allLight wsX8_allLight) := goodIn_app (goodIn_of _ (by decide +kernel)) ggX8_count_X8_allLight
set_option maxRecDepth 20000 in
theorem ggX8_count_X8_brightest : GoodIn wsX8_count wsX8_brightest := goodIn_r _ [115, 13, 14, 15, 16, 7, 17, 18, 19, 20, 21, 1, 22, 23, 24, 25, 26, 27, 28, 29, 30, 31, 32, 33, 34, 35, 36, 37, 38, 39, 40, 41, 42, 43, 44, 45, 46, 47, 48, 49, 50, 51, 52, 53, 54, 55, 56, 57, 58, 59, 60, 61, 116, 117, 118, 119, 120, 121, 122, 123, 124, 125, 126] (by decide +kernel) (by decide +kernel)
set_option maxRecDepth 20000 in
theorem gX8_count_X8_brightest : GoodIn wsX8_count (wsV RX8 197 RX8 yX8_brightest wsX8_brightest) := goodIn_app (goodIn_of _ (by decide +kernel)) ggX8_count_X8_brightest
set_option maxRecDepth 20000 in
theorem ggX8_count_X8_lightAt : GoodIn wsX8_count wsX8_lightAt := goodIn_r _ [21, 1, 22, 23, 24, 7, 25, 26, 27, 28, 29, 30, 31, 32, 33, 34, 35, 36, 37, 38, 39, 40, 41, 42, 43, 44, 45, 46, 47, 48, 49, 50, 51, 52, 53, 54, 55, 56, 57, 58, 59, 60, 61, 116, 117, 118, 119, 120, 121, 122, 123, 124, 125, 126] (by decide +kernel) (by decide +kernel)
set_option maxRecDepth 20000 in
theorem gX8_count_X8_lightAt : GoodIn wsX8_count (wsV RX8 91 RX8 yX8_lightAt wsX8_lightAt) := goodIn_app (goodIn_of _ (by decide +kernel)) ggX8_count_X8_lightAt
theorem dX8_count_0 : decode cX8_count 0 = .ok (.iload_n 1, 1) := by decide +kernel
theorem dX8_count_1 : decode cX8_count 1 = .ok (.tableswitch 183 0 17 #[87, 87, 87, 87, 93, 98, 103, 108, 113, 122, 131, 140, 145, 154, 159, 159, 173, 178], 87) := by decide +kernel
theorem dX8_count_88 : decode cX8_count 88 = .ok (.aload_n 0, 1) := by decide +kernel
theorem dX8_count_89 : decode cX8_count 89 = .ok (.iload_n 1, 1) := by decide +kernel
theorem dX8_count_90 : decode cX8_count 90 = .ok (.invokevirtual 182, 3) := by decide +kernel
theorem dX8_count_93 : decode cX8_count 93 = .ok (.ireturn, 1) := by decide +kernel
theorem dX8_count_94 : decode cX8_count 94 = .ok (.aload_n 0, 1) := by decide +kernel
theorem dX8_count_95 : decode cX8_count 95 = .ok (.invokevirtual 185, 3) := by decide +kernel
theorem dX8_count_98 : decode cX8_count 98 = .ok (.ireturn, 1) := by decide +kernel
theorem dX8_count_99 : decode cX8_count 99 = .ok (.aload_n 0, 1) := by decide +kernel
theorem dX8_count_100 : decode cX8_count 100 = .ok (.invokevirtual 188, 3) := by decide +kernel
theorem dX8_count_103 : decode cX8_count 103 = .ok (.ireturn, 1) := by decide +kernel
theorem dX8_count_104 : decode cX8_count 104 = .ok (.aload_n 0, 1) := by decide +kernel
theorem dX8_count_105 : decode cX8_count 105 = .ok (.invokevirtual 142, 3) := by decide +kernel
theorem dX8_count_108 : decode cX8_count 108 = .ok (.ireturn, 1) := by decide +kernel
theorem dX8_count_109 : decode cX8_count 109 = .ok (.aload_n 0, 1) := by decide +kernel
theorem dX8_count_110 : decode cX8_count 110 = .ok (.invokevirtual 191, 3) := by decide +kernel
theorem dX8_count_113 : decode cX8_count 113 = .ok (.ireturn, 1) := by decide +kernel
theorem dX8_count_114 : decode cX8_count 114 = .ok (.aload_n 0, 1) := by decide +kernel
theorem dX8_count_115 : decode cX8_count 115 = .ok (.getfield 7, 3) := by decide +kernel
theorem dX8_count_118 : decode cX8_count 118 = .ok (.sipush 128, 3) := by decide +kernel
theorem dX8_count_121 : decode cX8_count 121 = .ok (.iaload, 1) := by decide +kernel
theorem dX8_count_122 : decode cX8_count 122 = .ok (.ireturn, 1) := by decide +kernel
theorem dX8_count_123 : decode cX8_count 123 = .ok (.aload_n 0, 1) := by decide +kernel
theorem dX8_count_124 : decode cX8_count 124 = .ok (.getfield 7, 3) := by decide +kernel
theorem dX8_count_127 : decode cX8_count 127 = .ok (.sipush 147, 3) := by decide +kernel
theorem dX8_count_130 : decode cX8_count 130 = .ok (.iaload, 1) := by decide +kernel
theorem dX8_count_131 : decode cX8_count 131 = .ok (.ireturn, 1) := by decide +kernel
theorem dX8_count_132 : decode cX8_count 132 = .ok (.aload_n 0, 1) := by decide +kernel
theorem dX8_count_133 : decode cX8_count 133 = .ok (.getfield 7, 3) := by decide +kernel
theorem dX8_count_136 : decode cX8_count 136 = .ok (.sipush 148, 3) := by decide +kernel
theorem dX8_count_139 : decode cX8_count 139 = .ok (.iaload, 1) := by decide +kernel
theorem dX8_count_140 : decode cX8_count 140 = .ok (.ireturn, 1) := by decide +kernel
theorem dX8_count_141 : decode cX8_count 141 = .ok (.aload_n 0, 1) := by decide +kernel
theorem dX8_count_142 : decode cX8_count 142 = .ok (.invokevirtual 194, 3) := by decide +kernel
theorem dX8_count_145 : decode cX8_count 145 = .ok (.ireturn, 1) := by decide +kernel
theorem dX8_count_146 : decode cX8_count 146 = .ok (.aload_n 0, 1) := by decide +kernel
theorem dX8_count_147 : decode cX8_count 147 = .ok (.aload_n 0, 1) := by decide +kernel
theorem dX8_count_148 : decode cX8_count 148 = .ok (.invokevirtual 197, 3) := by decide +kernel
theorem dX8_count_151 : decode cX8_count 151 = .ok (.invokevirtual 91, 3) := by decide +kernel
theorem dX8_count_154 : decode cX8_count 154 = .ok (.ireturn, 1) := by decide +kernel
theorem dX8_count_155 : decode cX8_count 155 = .ok (.aload_n 0, 1) := by decide +kernel
theorem dX8_count_156 : decode cX8_count 156 = .ok (.invokevirtual 197, 3) := by decide +kernel
theorem dX8_count_159 : decode cX8_count 159 = .ok (.ireturn, 1) := by decide +kernel
theorem dX8_count_160 : decode cX8_count 160 = .ok (.aload_n 0, 1) := by decide +kernel
theorem dX8_count_161 : decode cX8_count 161 = .ok (.getfield 7, 3) := by decide +kernel
theorem dX8_count_164 : decode cX8_count 164 = .ok (.sipush 149, 3) := by decide +kernel
theorem dX8_count_167 : decode cX8_count 167 = .ok (.iload_n 1, 1) := by decide +kernel
theorem dX8_count_168 : decode cX8_count 168 = .ok (.iadd, 1) := by decide +kernel
theorem dX8_count_169 : decode cX8_count 169 = .ok (.bipush 14, 2) := by decide +kernel
theorem dX8_count_171 : decode cX8_count 171 = .ok (.isub, 1) := by decide +kernel
theorem dX8_count_172 : decode cX8_count 172 = .ok (.iaload, 1) := by decide +kernel
theorem dX8_count_173 : decode cX8_count 173 = .ok (.ireturn, 1) := by decide +kernel
theorem dX8_count_174 : decode cX8_count 174 = .ok (.aload_n 0, 1) := by decide +kernel
theorem dX8_count_175 : decode cX8_count 175 = .ok (.getfield 146, 3) := by decide +kernel
theorem dX8_count_178 : decode cX8_count 178 = .ok (.ireturn, 1) := by decide +kernel
theorem dX8_count_179 : decode cX8_count 179 = .ok (.aload_n 0, 1) := by decide +kernel
theorem dX8_count_180 : decode cX8_count 180 = .ok (.getfield 41, 3) := by decide +kernel
theorem dX8_count_183 : decode cX8_count 183 = .ok (.ireturn, 1) := by decide +kernel
theorem dX8_count_184 : decode cX8_count 184 = .ok (.iconst (-1), 1) := by decide +kernel
theorem dX8_count_185 : decode cX8_count 185 = .ok (.ireturn, 1) := by decide +kernel
set_option maxRecDepth 20000 in
theorem ggX8_litShare_X8_litCells : GoodIn wsX8_litShare wsX8_litCells := goodIn_r _ [6, 7, 8, 9, 10, 11, 5, 12, 13, 14, 15, 16, 17, 18, 19, 20, 21, 22, 23, 24, 25, 26, 27, 28, 29, 30, 31, 32, 33, 34, 35, 36, 37, 38, 39, 40, 41, 42, 43, 44, 45, 46, 47, 48, 49, 50, 51, 52, 53, 54, 55, 56, 57, 58, 59, 60, 61, 62, 63, 64, 65, 66, 67] (by decide +kernel) (by decide +kernel)
set_option maxRecDepth 20000 in
theorem gX8_litShare_X8_litCells : GoodIn wsX8_litShare (wsV RX8 185 RX8 yX8_litCells wsX8_litCells) := goodIn_app (goodIn_of _ (by decide +kernel)) ggX8_litShare_X8_litCells
theorem dX8_litShare_0 : decode cX8_litShare 0 = .ok (.aload_n 0, 1) := by decide +kernel
theorem dX8_litShare_1 : decode cX8_litShare 1 = .ok (.invokevirtual 185, 3) := by decide +kernel
theorem dX8_litShare_4 : decode cX8_litShare 4 = .ok (.i2d, 1) := by decide +kernel
theorem dX8_litShare_5 : decode cX8_litShare 5 = .ok (.ldc2_w 200, 3) := by decide +kernel
theorem dX8_litShare_8 : decode cX8_litShare 8 = .ok (.ddiv, 1) := by decide +kernel
theorem dX8_litShare_9 : decode cX8_litShare 9 = .ok (.dreturn, 1) := by decide +kernel
theorem dX8_takes_0 : decode cX8_takes 0 = .ok (.aload_n 0, 1) := by decide +kernel
theorem dX8_takes_1 : decode cX8_takes 1 = .ok (.getfield 28, 3) := by decide +kernel
theorem dX8_takes_4 : decode cX8_takes 4 = .ok (.iload_n 1, 1) := by decide +kernel
theorem dX8_takes_5 : decode cX8_takes 5 = .ok (.iaload, 1) := by decide +kernel
theorem dX8_takes_6 : decode cX8_takes 6 = .ok (.bipush (-4), 2) := by decide +kernel
theorem dX8_takes_8 : decode cX8_takes 8 = .ok (.if_icmp .eq 13, 3) := by decide +kernel
theorem dX8_takes_11 : decode cX8_takes 11 = .ok (.iload_n 2, 1) := by decide +kernel
theorem dX8_takes_12 : decode cX8_takes 12 = .ok (.aload_n 0, 1) := by decide +kernel
theorem dX8_takes_13 : decode cX8_takes 13 = .ok (.getfield 28, 3) := by decide +kernel
theorem dX8_takes_16 : decode cX8_takes 16 = .ok (.iload_n 1, 1) := by decide +kernel
theorem dX8_takes_17 : decode cX8_takes 17 = .ok (.iaload, 1) := by decide +kernel
theorem dX8_takes_18 : decode cX8_takes 18 = .ok (.if_icmp .ge 7, 3) := by decide +kernel
theorem dX8_takes_21 : decode cX8_takes 21 = .ok (.iconst 1, 1) := by decide +kernel
theorem dX8_takes_22 : decode cX8_takes 22 = .ok (.goto 4, 3) := by decide +kernel
theorem dX8_takes_25 : decode cX8_takes 25 = .ok (.iconst 0, 1) := by decide +kernel
theorem dX8_takes_26 : decode cX8_takes 26 = .ok (.istore_n 3, 1) := by decide +kernel
theorem dX8_takes_27 : decode cX8_takes 27 = .ok (.aload_n 0, 1) := by decide +kernel
theorem dX8_takes_28 : decode cX8_takes 28 = .ok (.getfield 28, 3) := by decide +kernel
theorem dX8_takes_31 : decode cX8_takes 31 = .ok (.iload_n 1, 1) := by decide +kernel
theorem dX8_takes_32 : decode cX8_takes 32 = .ok (.iload_n 3, 1) := by decide +kernel
theorem dX8_takes_33 : decode cX8_takes 33 = .ok (.ifCond .eq 7, 3) := by decide +kernel
theorem dX8_takes_36 : decode cX8_takes 36 = .ok (.iload_n 2, 1) := by decide +kernel
theorem dX8_takes_37 : decode cX8_takes 37 = .ok (.goto 9, 3) := by decide +kernel
theorem dX8_takes_40 : decode cX8_takes 40 = .ok (.aload_n 0, 1) := by decide +kernel
theorem dX8_takes_41 : decode cX8_takes 41 = .ok (.getfield 28, 3) := by decide +kernel
theorem dX8_takes_44 : decode cX8_takes 44 = .ok (.iload_n 1, 1) := by decide +kernel
theorem dX8_takes_45 : decode cX8_takes 45 = .ok (.iaload, 1) := by decide +kernel
theorem dX8_takes_46 : decode cX8_takes 46 = .ok (.iastore, 1) := by decide +kernel
theorem dX8_takes_47 : decode cX8_takes 47 = .ok (.iload_n 3, 1) := by decide +kernel
theorem dX8_takes_48 : decode cX8_takes 48 = .ok (.ireturn, 1) := by decide +kernel
set_option maxRecDepth 20000 in
theorem ggX8_begin_X8_shine : GoodIn wsX8_begin wsX8_shine := goodIn_r _ [6, 7, 8, 9, 10, 5, 11, 12, 13, 14, 15, 16, 17, 18, 19, 20, 21, 22, 23, 24, 25, 26, 27, 28, 29, 30, 31, 32, 33, 34, 35, 36, 37, 38, 39, 40, 41, 42, 43, 44, 45, 46, 47, 48, 49, 50, 51, 52, 53, 54, 55, 56, 57, 58, 59, 60, 61, 62, 63] (by decide +kernel) (by decide +kernel)
set_option maxRecDepth 20000 in
theorem gX8_begin_X8_shine : GoodIn wsX8_begin (wsV RX8 95 RX8 yX8_shine wsX8_shine) := goodIn_app (goodIn_of _ (by decide +kernel)) ggX8_begin_X8_shine
theorem dX8_begin_0 : decode cX8_begin 0 = .ok (.aload_n 0, 1) := by decide +kernel
theorem dX8_begin_1 : decode cX8_begin 1 = .ok (.invokevirtual 95, 3) := by decide +kernel
theorem dX8_begin_4 : decode cX8_begin 4 = .ok (.iconst 0, 1) := by decide +kernel
theorem dX8_begin_5 : decode cX8_begin 5 = .ok (.istore_n 2, 1) := by decide +kernel
theorem dX8_begin_6 : decode cX8_begin 6 = .ok (.iload_n 2, 1) := by decide +kernel
theorem dX8_begin_7 : decode cX8_begin 7 = .ok (.bipush 64, 2) := by decide +kernel
theorem dX8_begin_9 : decode cX8_begin 9 = .ok (.if_icmp .ge 17, 3) := by decide +kernel
theorem dX8_begin_12 : decode cX8_begin 12 = .ok (.aload_n 0, 1) := by decide +kernel
theorem dX8_begin_13 : decode cX8_begin 13 = .ok (.getfield 28, 3) := by decide +kernel
theorem dX8_begin_16 : decode cX8_begin 16 = .ok (.iload_n 2, 1) := by decide +kernel
theorem dX8_begin_17 : decode cX8_begin 17 = .ok (.bipush (-4), 2) := by decide +kernel
theorem dX8_begin_19 : decode cX8_begin 19 = .ok (.iastore, 1) := by decide +kernel
theorem dX8_begin_20 : decode cX8_begin 20 = .ok (.iinc 2 1, 3) := by decide +kernel
theorem dX8_begin_23 : decode cX8_begin 23 = .ok (.goto (-17), 3) := by decide +kernel
theorem dX8_begin_26 : decode cX8_begin 26 = .ok (.aload_n 0, 1) := by decide +kernel
theorem dX8_begin_27 : decode cX8_begin 27 = .ok (.getfield 28, 3) := by decide +kernel
theorem dX8_begin_30 : decode cX8_begin 30 = .ok (.iload_n 1, 1) := by decide +kernel
theorem dX8_begin_31 : decode cX8_begin 31 = .ok (.iconst 0, 1) := by decide +kernel
theorem dX8_begin_32 : decode cX8_begin 32 = .ok (.iastore, 1) := by decide +kernel
theorem dX8_begin_33 : decode cX8_begin 33 = .ok (.return_, 1) := by decide +kernel
set_option maxRecDepth 20000 in
theorem ggX8_lookFrom_X8_begin : GoodIn wsX8_lookFrom wsX8_begin := goodIn_r _ [7, 1, 8, 9, 10, 6, 11, 2, 12, 13, 14, 15, 16, 17, 18, 19, 20, 21, 22, 23, 24, 25, 26, 27, 28, 29, 30, 31, 32, 33, 34, 35, 36, 37, 38, 39, 40, 41, 42, 43, 44, 45, 46, 47, 48, 49, 50, 51, 52, 53, 54, 55, 56, 71, 72, 73, 74, 75, 76, 77, 78, 79, 80, 81] (by decide +kernel) (by decide +kernel)
set_option maxRecDepth 20000 in
theorem gX8_lookFrom_X8_begin : GoodIn wsX8_lookFrom (wsV RX8 202 RX8 yX8_begin wsX8_begin) := goodIn_app (goodIn_of _ (by decide +kernel)) ggX8_lookFrom_X8_begin
set_option maxRecDepth 20000 in
theorem ggX8_lookFrom_X8_canGo : GoodIn wsX8_lookFrom wsX8_canGo := goodIn_r _ [60, 16, 61, 62, 6, 63, 34, 35, 36, 64, 65, 66, 71, 72, 73, 74, 75, 76, 77, 78, 79, 80, 81] (by decide +kernel) (by decide +kernel)
set_option maxRecDepth 20000 in
theorem gX8_lookFrom_X8_canGo : GoodIn wsX8_lookFrom (wsV RX8 136 RX8 yX8_canGo wsX8_canGo) := goodIn_app (goodIn_of _ (by decide +kernel)) ggX8_lookFrom_X8_canGo
set_option maxRecDepth 20000 in
theorem ggX8_lookFrom_X8_next : GoodIn wsX8_lookFrom wsX8_next := goodIn_r _ [63, 34, 35, 6, 36] (by decide +kernel) (by decide +kernel)
set_option maxRecDepth 20000 in
theorem gX8_lookFrom_X8_next : GoodIn wsX8_lookFrom (va_wsS RX8 107 yX8_next wsX8_next) := goodIn_app (goodIn_of _ (by decide +kernel)) ggX8_lookFrom_X8_next
set_option maxRecDepth 20000 in
theorem ggX8_lookFrom_X8_takes : GoodIn wsX8_lookFrom wsX8_takes := goodIn_r _ [70, 1, 71, 72, 73, 74, 75, 76, 77, 78, 79, 80, 81] (by decide +kernel) (by decide +kernel)
set_option maxRecDepth 20000 in
theorem gX8_lookFrom_X8_takes : GoodIn wsX8_lookFrom (wsV RX8 205 RX8 yX8_takes wsX8_takes) := goodIn_app (goodIn_of _ (by decide +kernel)) ggX8_lookFrom_X8_takes
theorem dX8_lookFrom_0 : decode cX8_lookFrom 0 = .ok (.aload_n 0, 1) := by decide +kernel
theorem dX8_lookFrom_1 : decode cX8_lookFrom 1 = .ok (.iload_n 1, 1) := by decide +kernel
theorem dX8_lookFrom_2 : decode cX8_lookFrom 2 = .ok (.invokevirtual 202, 3) := by decide +kernel
theorem dX8_lookFrom_5 : decode cX8_lookFrom 5 = .ok (.iconst 1, 1) := by decide +kernel
theorem dX8_lookFrom_6 : decode cX8_lookFrom 6 = .ok (.istore_n 2, 1) := by decide +kernel
theorem dX8_lookFrom_7 : decode cX8_lookFrom 7 = .ok (.iload_n 2, 1) := by decide +kernel
theorem dX8_lookFrom_8 : decode cX8_lookFrom 8 = .ok (.ifCond .eq 105, 3) := by decide +kernel
theorem dX8_lookFrom_11 : decode cX8_lookFrom 11 = .ok (.iconst 0, 1) := by decide +kernel
theorem dX8_lookFrom_12 : decode cX8_lookFrom 12 = .ok (.istore_n 2, 1) := by decide +kernel
theorem dX8_lookFrom_13 : decode cX8_lookFrom 13 = .ok (.iconst 0, 1) := by decide +kernel
theorem dX8_lookFrom_14 : decode cX8_lookFrom 14 = .ok (.istore_n 3, 1) := by decide +kernel
theorem dX8_lookFrom_15 : decode cX8_lookFrom 15 = .ok (.iload_n 3, 1) := by decide +kernel
theorem dX8_lookFrom_16 : decode cX8_lookFrom 16 = .ok (.bipush 64, 2) := by decide +kernel
theorem dX8_lookFrom_18 : decode cX8_lookFrom 18 = .ok (.if_icmp .ge 92, 3) := by decide +kernel
theorem dX8_lookFrom_21 : decode cX8_lookFrom 21 = .ok (.iconst 0, 1) := by decide +kernel
theorem dX8_lookFrom_22 : decode cX8_lookFrom 22 = .ok (.istore 4, 2) := by decide +kernel
theorem dX8_lookFrom_24 : decode cX8_lookFrom 24 = .ok (.iload 4, 2) := by decide +kernel
theorem dX8_lookFrom_26 : decode cX8_lookFrom 26 = .ok (.iconst 4, 1) := by decide +kernel
theorem dX8_lookFrom_27 : decode cX8_lookFrom 27 = .ok (.if_icmp .ge 77, 3) := by decide +kernel
theorem dX8_lookFrom_30 : decode cX8_lookFrom 30 = .ok (.aload_n 0, 1) := by decide +kernel
theorem dX8_lookFrom_31 : decode cX8_lookFrom 31 = .ok (.getfield 28, 3) := by decide +kernel
theorem dX8_lookFrom_34 : decode cX8_lookFrom 34 = .ok (.iload_n 3, 1) := by decide +kernel
theorem dX8_lookFrom_35 : decode cX8_lookFrom 35 = .ok (.iaload, 1) := by decide +kernel
theorem dX8_lookFrom_36 : decode cX8_lookFrom 36 = .ok (.bipush (-4), 2) := by decide +kernel
theorem dX8_lookFrom_38 : decode cX8_lookFrom 38 = .ok (.if_icmp .eq 66, 3) := by decide +kernel
theorem dX8_lookFrom_41 : decode cX8_lookFrom 41 = .ok (.aload_n 0, 1) := by decide +kernel
theorem dX8_lookFrom_42 : decode cX8_lookFrom 42 = .ok (.iload_n 3, 1) := by decide +kernel
theorem dX8_lookFrom_43 : decode cX8_lookFrom 43 = .ok (.iload 4, 2) := by decide +kernel
theorem dX8_lookFrom_45 : decode cX8_lookFrom 45 = .ok (.invokevirtual 136, 3) := by decide +kernel
theorem dX8_lookFrom_48 : decode cX8_lookFrom 48 = .ok (.ifCond .eq 50, 3) := by decide +kernel
theorem dX8_lookFrom_51 : decode cX8_lookFrom 51 = .ok (.iload_n 3, 1) := by decide +kernel
theorem dX8_lookFrom_52 : decode cX8_lookFrom 52 = .ok (.iload 4, 2) := by decide +kernel
theorem dX8_lookFrom_54 : decode cX8_lookFrom 54 = .ok (.invokestatic 107, 3) := by decide +kernel
theorem dX8_lookFrom_57 : decode cX8_lookFrom 57 = .ok (.istore 5, 2) := by decide +kernel
theorem dX8_lookFrom_59 : decode cX8_lookFrom 59 = .ok (.aload_n 0, 1) := by decide +kernel
theorem dX8_lookFrom_60 : decode cX8_lookFrom 60 = .ok (.iload 5, 2) := by decide +kernel
theorem dX8_lookFrom_62 : decode cX8_lookFrom 62 = .ok (.aload_n 0, 1) := by decide +kernel
theorem dX8_lookFrom_63 : decode cX8_lookFrom 63 = .ok (.getfield 28, 3) := by decide +kernel
theorem dX8_lookFrom_66 : decode cX8_lookFrom 66 = .ok (.iload_n 3, 1) := by decide +kernel
theorem dX8_lookFrom_67 : decode cX8_lookFrom 67 = .ok (.iaload, 1) := by decide +kernel
theorem dX8_lookFrom_68 : decode cX8_lookFrom 68 = .ok (.iconst 1, 1) := by decide +kernel
theorem dX8_lookFrom_69 : decode cX8_lookFrom 69 = .ok (.iadd, 1) := by decide +kernel
theorem dX8_lookFrom_70 : decode cX8_lookFrom 70 = .ok (.aload_n 0, 1) := by decide +kernel
theorem dX8_lookFrom_71 : decode cX8_lookFrom 71 = .ok (.getfield 22, 3) := by decide +kernel
theorem dX8_lookFrom_74 : decode cX8_lookFrom 74 = .ok (.iload 5, 2) := by decide +kernel
theorem dX8_lookFrom_76 : decode cX8_lookFrom 76 = .ok (.iaload, 1) := by decide +kernel
theorem dX8_lookFrom_77 : decode cX8_lookFrom 77 = .ok (.iadd, 1) := by decide +kernel
theorem dX8_lookFrom_78 : decode cX8_lookFrom 78 = .ok (.invokevirtual 205, 3) := by decide +kernel
theorem dX8_lookFrom_81 : decode cX8_lookFrom 81 = .ok (.istore 6, 2) := by decide +kernel
theorem dX8_lookFrom_83 : decode cX8_lookFrom 83 = .ok (.iload_n 2, 1) := by decide +kernel
theorem dX8_lookFrom_84 : decode cX8_lookFrom 84 = .ok (.ifCond .ne 8, 3) := by decide +kernel
theorem dX8_lookFrom_87 : decode cX8_lookFrom 87 = .ok (.iload 6, 2) := by decide +kernel
theorem dX8_lookFrom_89 : decode cX8_lookFrom 89 = .ok (.ifCond .eq 7, 3) := by decide +kernel
theorem dX8_lookFrom_92 : decode cX8_lookFrom 92 = .ok (.iconst 1, 1) := by decide +kernel
theorem dX8_lookFrom_93 : decode cX8_lookFrom 93 = .ok (.goto 4, 3) := by decide +kernel
theorem dX8_lookFrom_96 : decode cX8_lookFrom 96 = .ok (.iconst 0, 1) := by decide +kernel
theorem dX8_lookFrom_97 : decode cX8_lookFrom 97 = .ok (.istore_n 2, 1) := by decide +kernel
theorem dX8_lookFrom_98 : decode cX8_lookFrom 98 = .ok (.iinc 4 1, 3) := by decide +kernel
theorem dX8_lookFrom_101 : decode cX8_lookFrom 101 = .ok (.goto (-77), 3) := by decide +kernel
theorem dX8_lookFrom_104 : decode cX8_lookFrom 104 = .ok (.iinc 3 1, 3) := by decide +kernel
theorem dX8_lookFrom_107 : decode cX8_lookFrom 107 = .ok (.goto (-92), 3) := by decide +kernel
theorem dX8_lookFrom_110 : decode cX8_lookFrom 110 = .ok (.goto (-103), 3) := by decide +kernel
theorem dX8_lookFrom_113 : decode cX8_lookFrom 113 = .ok (.return_, 1) := by decide +kernel
set_option maxRecDepth 20000 in
theorem ggX8_lookTo_X8_begin : GoodIn wsX8_lookTo wsX8_begin := goodIn_r _ [7, 1, 8, 9, 10, 6, 11, 2, 12, 13, 14, 15, 16, 17, 18, 19, 20, 21, 22, 23, 24, 25, 26, 27, 28, 29, 30, 31, 32, 33, 34, 35, 36, 37, 38, 39, 40, 41, 42, 43, 44, 45, 46, 47, 48, 49, 50, 51, 52, 53, 54, 55, 56, 71, 72, 73, 74, 75, 76, 77, 78, 79, 80, 81] (by decide +kernel) (by decide +kernel)
set_option maxRecDepth 20000 in
theorem gX8_lookTo_X8_begin : GoodIn wsX8_lookTo (wsV RX8 202 RX8 yX8_begin wsX8_begin) := goodIn_app (goodIn_of _ (by decide +kernel)) ggX8_lookTo_X8_begin
set_option maxRecDepth 20000 in
theorem ggX8_lookTo_X8_canGo : GoodIn wsX8_lookTo wsX8_canGo := goodIn_r _ [60, 16, 61, 62, 6, 63, 34, 35, 36, 64, 65, 66, 71, 72, 73, 74, 75, 76, 77, 78, 79, 80, 81] (by decide +kernel) (by decide +kernel)
set_option maxRecDepth 20000 in
theorem gX8_lookTo_X8_canGo : GoodIn wsX8_lookTo (wsV RX8 136 RX8 yX8_canGo wsX8_canGo) := goodIn_app (goodIn_of _ (by decide +kernel)) ggX8_lookTo_X8_canGo
set_option maxRecDepth 20000 in
theorem ggX8_lookTo_X8_next : GoodIn wsX8_lookTo wsX8_next := goodIn_r _ [63, 34, 35, 6, 36] (by decide +kernel) (by decide +kernel)
set_option maxRecDepth 20000 in
theorem gX8_lookTo_X8_next : GoodIn wsX8_lookTo (va_wsS RX8 107 yX8_next wsX8_next) := goodIn_app (goodIn_of _ (by decide +kernel)) ggX8_lookTo_X8_next
set_option maxRecDepth 20000 in
theorem ggX8_lookTo_X8_takes : GoodIn wsX8_lookTo wsX8_takes := goodIn_r _ [70, 1, 71, 72, 73, 74, 75, 76, 77, 78, 79, 80, 81] (by decide +kernel) (by decide +kernel)
set_option maxRecDepth 20000 in
theorem gX8_lookTo_X8_takes : GoodIn wsX8_lookTo (wsV RX8 205 RX8 yX8_takes wsX8_takes) := goodIn_app (goodIn_of _ (by decide +kernel)) ggX8_lookTo_X8_takes
theorem dX8_lookTo_0 : decode cX8_lookTo 0 = .ok (.aload_n 0, 1) := by decide +kernel
theorem dX8_lookTo_1 : decode cX8_lookTo 1 = .ok (.iload_n 1, 1) := by decide +kernel
theorem dX8_lookTo_2 : decode cX8_lookTo 2 = .ok (.invokevirtual 202, 3) := by decide +kernel
theorem dX8_lookTo_5 : decode cX8_lookTo 5 = .ok (.iconst 1, 1) := by decide +kernel
theorem dX8_lookTo_6 : decode cX8_lookTo 6 = .ok (.istore_n 2, 1) := by decide +kernel
theorem dX8_lookTo_7 : decode cX8_lookTo 7 = .ok (.iload_n 2, 1) := by decide +kernel
theorem dX8_lookTo_8 : decode cX8_lookTo 8 = .ok (.ifCond .eq 118, 3) := by decide +kernel
theorem dX8_lookTo_11 : decode cX8_lookTo 11 = .ok (.iconst 0, 1) := by decide +kernel
theorem dX8_lookTo_12 : decode cX8_lookTo 12 = .ok (.istore_n 2, 1) := by decide +kernel
theorem dX8_lookTo_13 : decode cX8_lookTo 13 = .ok (.iconst 0, 1) := by decide +kernel
theorem dX8_lookTo_14 : decode cX8_lookTo 14 = .ok (.istore_n 3, 1) := by decide +kernel
theorem dX8_lookTo_15 : decode cX8_lookTo 15 = .ok (.iload_n 3, 1) := by decide +kernel
theorem dX8_lookTo_16 : decode cX8_lookTo 16 = .ok (.bipush 64, 2) := by decide +kernel
theorem dX8_lookTo_18 : decode cX8_lookTo 18 = .ok (.if_icmp .ge 105, 3) := by decide +kernel
theorem dX8_lookTo_21 : decode cX8_lookTo 21 = .ok (.iconst 0, 1) := by decide +kernel
theorem dX8_lookTo_22 : decode cX8_lookTo 22 = .ok (.istore 4, 2) := by decide +kernel
theorem dX8_lookTo_24 : decode cX8_lookTo 24 = .ok (.iload 4, 2) := by decide +kernel
theorem dX8_lookTo_26 : decode cX8_lookTo 26 = .ok (.iconst 4, 1) := by decide +kernel
theorem dX8_lookTo_27 : decode cX8_lookTo 27 = .ok (.if_icmp .ge 90, 3) := by decide +kernel
theorem dX8_lookTo_30 : decode cX8_lookTo 30 = .ok (.aload_n 0, 1) := by decide +kernel
theorem dX8_lookTo_31 : decode cX8_lookTo 31 = .ok (.iload_n 3, 1) := by decide +kernel
theorem dX8_lookTo_32 : decode cX8_lookTo 32 = .ok (.iload 4, 2) := by decide +kernel
theorem dX8_lookTo_34 : decode cX8_lookTo 34 = .ok (.invokevirtual 136, 3) := by decide +kernel
theorem dX8_lookTo_37 : decode cX8_lookTo 37 = .ok (.ifCond .eq 12, 3) := by decide +kernel
theorem dX8_lookTo_40 : decode cX8_lookTo 40 = .ok (.iload_n 3, 1) := by decide +kernel
theorem dX8_lookTo_41 : decode cX8_lookTo 41 = .ok (.iload 4, 2) := by decide +kernel
theorem dX8_lookTo_43 : decode cX8_lookTo 43 = .ok (.invokestatic 107, 3) := by decide +kernel
theorem dX8_lookTo_46 : decode cX8_lookTo 46 = .ok (.goto 5, 3) := by decide +kernel
theorem dX8_lookTo_49 : decode cX8_lookTo 49 = .ok (.bipush (-4), 2) := by decide +kernel
theorem dX8_lookTo_51 : decode cX8_lookTo 51 = .ok (.istore 5, 2) := by decide +kernel
theorem dX8_lookTo_53 : decode cX8_lookTo 53 = .ok (.iload 5, 2) := by decide +kernel
theorem dX8_lookTo_55 : decode cX8_lookTo 55 = .ok (.bipush (-4), 2) := by decide +kernel
theorem dX8_lookTo_57 : decode cX8_lookTo 57 = .ok (.if_icmp .eq 54, 3) := by decide +kernel
theorem dX8_lookTo_60 : decode cX8_lookTo 60 = .ok (.aload_n 0, 1) := by decide +kernel
theorem dX8_lookTo_61 : decode cX8_lookTo 61 = .ok (.getfield 28, 3) := by decide +kernel
theorem dX8_lookTo_64 : decode cX8_lookTo 64 = .ok (.iload 5, 2) := by decide +kernel
theorem dX8_lookTo_66 : decode cX8_lookTo 66 = .ok (.iaload, 1) := by decide +kernel
theorem dX8_lookTo_67 : decode cX8_lookTo 67 = .ok (.bipush (-4), 2) := by decide +kernel
theorem dX8_lookTo_69 : decode cX8_lookTo 69 = .ok (.if_icmp .eq 42, 3) := by decide +kernel
theorem dX8_lookTo_72 : decode cX8_lookTo 72 = .ok (.aload_n 0, 1) := by decide +kernel
theorem dX8_lookTo_73 : decode cX8_lookTo 73 = .ok (.iload_n 3, 1) := by decide +kernel
theorem dX8_lookTo_74 : decode cX8_lookTo 74 = .ok (.aload_n 0, 1) := by decide +kernel
theorem dX8_lookTo_75 : decode cX8_lookTo 75 = .ok (.getfield 28, 3) := by decide +kernel
theorem dX8_lookTo_78 : decode cX8_lookTo 78 = .ok (.iload 5, 2) := by decide +kernel
theorem dX8_lookTo_80 : decode cX8_lookTo 80 = .ok (.iaload, 1) := by decide +kernel
theorem dX8_lookTo_81 : decode cX8_lookTo 81 = .ok (.iconst 1, 1) := by decide +kernel
theorem dX8_lookTo_82 : decode cX8_lookTo 82 = .ok (.iadd, 1) := by decide +kernel
theorem dX8_lookTo_83 : decode cX8_lookTo 83 = .ok (.aload_n 0, 1) := by decide +kernel
theorem dX8_lookTo_84 : decode cX8_lookTo 84 = .ok (.getfield 22, 3) := by decide +kernel
theorem dX8_lookTo_87 : decode cX8_lookTo 87 = .ok (.iload 5, 2) := by decide +kernel
theorem dX8_lookTo_89 : decode cX8_lookTo 89 = .ok (.iaload, 1) := by decide +kernel
theorem dX8_lookTo_90 : decode cX8_lookTo 90 = .ok (.iadd, 1) := by decide +kernel
theorem dX8_lookTo_91 : decode cX8_lookTo 91 = .ok (.invokevirtual 205, 3) := by decide +kernel
theorem dX8_lookTo_94 : decode cX8_lookTo 94 = .ok (.istore 6, 2) := by decide +kernel
theorem dX8_lookTo_96 : decode cX8_lookTo 96 = .ok (.iload_n 2, 1) := by decide +kernel
theorem dX8_lookTo_97 : decode cX8_lookTo 97 = .ok (.ifCond .ne 8, 3) := by decide +kernel
theorem dX8_lookTo_100 : decode cX8_lookTo 100 = .ok (.iload 6, 2) := by decide +kernel
theorem dX8_lookTo_102 : decode cX8_lookTo 102 = .ok (.ifCond .eq 7, 3) := by decide +kernel
theorem dX8_lookTo_105 : decode cX8_lookTo 105 = .ok (.iconst 1, 1) := by decide +kernel
theorem dX8_lookTo_106 : decode cX8_lookTo 106 = .ok (.goto 4, 3) := by decide +kernel
theorem dX8_lookTo_109 : decode cX8_lookTo 109 = .ok (.iconst 0, 1) := by decide +kernel
theorem dX8_lookTo_110 : decode cX8_lookTo 110 = .ok (.istore_n 2, 1) := by decide +kernel
theorem dX8_lookTo_111 : decode cX8_lookTo 111 = .ok (.iinc 4 1, 3) := by decide +kernel
theorem dX8_lookTo_114 : decode cX8_lookTo 114 = .ok (.goto (-90), 3) := by decide +kernel
theorem dX8_lookTo_117 : decode cX8_lookTo 117 = .ok (.iinc 3 1, 3) := by decide +kernel
theorem dX8_lookTo_120 : decode cX8_lookTo 120 = .ok (.goto (-105), 3) := by decide +kernel
theorem dX8_lookTo_123 : decode cX8_lookTo 123 = .ok (.goto (-116), 3) := by decide +kernel
theorem dX8_lookTo_126 : decode cX8_lookTo 126 = .ok (.return_, 1) := by decide +kernel
set_option maxRecDepth 20000 in
theorem ggX8_exposure_X8_isCell : GoodIn wsX8_exposure wsX8_isCell := goodIn_r _ [6, 7, 8, 5, 9] (by decide +kernel) (by decide +kernel)
set_option maxRecDepth 20000 in
theorem gX8_exposure_X8_isCell : GoodIn wsX8_exposure (va_wsS RX8 120 yX8_isCell wsX8_isCell) := goodIn_app (goodIn_of _ (by decide +kernel)) ggX8_exposure_X8_isCell
set_option maxRecDepth 20000 in
theorem ggX8_exposure_X8_in : GoodIn wsX8_exposure wsX8_in := goodIn_r _ [9] (by decide +kernel) (by decide +kernel)
set_option maxRecDepth 20000 in
theorem gX8_exposure_X8_in : GoodIn wsX8_exposure (va_wsS RX8 37 yX8_in wsX8_in) := goodIn_app (goodIn_of _ (by decide +kernel)) ggX8_exposure_X8_in
set_option maxRecDepth 20000 in
theorem ggX8_exposure_X8_lookFrom : GoodIn wsX8_exposure wsX8_lookFrom := goodIn_r _ [13, 2, 14, 15, 16, 17, 5, 18, 19, 20, 21, 22, 23, 24, 25, 26, 1, 27, 28, 29, 30, 31, 32, 33, 34, 35, 36, 37, 38, 39, 40, 41, 42, 43, 7, 8, 9, 44, 45, 46, 47, 48, 49, 50, 51, 52, 53, 54, 55, 56, 57, 58, 59, 60, 61, 62, 63, 64, 65, 66, 67, 68, 69, 70, 71, 72, 73, 74, 75, 76, 77, 78, 79, 80, 81, 82, 83, 84, 85, 86, 87, 88] (by decide +kernel) (by decide +kernel)
set_option maxRecDepth 20000 in
theorem gX8_exposure_X8_lookFrom : GoodIn wsX8_exposure (wsV RX8 179 RX8 yX8_lookFrom wsX8_lookFrom) := goodIn_app (goodIn_of _ (by decide +kernel)) ggX8_exposure_X8_lookFrom
theorem dX8_exposure_0 : decode cX8_exposure 0 = .ok (.iload_n 1, 1) := by decide +kernel
theorem dX8_exposure_1 : decode cX8_exposure 1 = .ok (.invokestatic 120, 3) := by decide +kernel
theorem dX8_exposure_4 : decode cX8_exposure 4 = .ok (.ifCond .eq 12, 3) := by decide +kernel
theorem dX8_exposure_7 : decode cX8_exposure 7 = .ok (.iload_n 2, 1) := by decide +kernel
theorem dX8_exposure_8 : decode cX8_exposure 8 = .ok (.iconst 0, 1) := by decide +kernel
theorem dX8_exposure_9 : decode cX8_exposure 9 = .ok (.iconst 1, 1) := by decide +kernel
theorem dX8_exposure_10 : decode cX8_exposure 10 = .ok (.invokestatic 37, 3) := by decide +kernel
theorem dX8_exposure_13 : decode cX8_exposure 13 = .ok (.ifCond .ne 5, 3) := by decide +kernel
theorem dX8_exposure_16 : decode cX8_exposure 16 = .ok (.iconst (-1), 1) := by decide +kernel
theorem dX8_exposure_17 : decode cX8_exposure 17 = .ok (.ireturn, 1) := by decide +kernel
theorem dX8_exposure_18 : decode cX8_exposure 18 = .ok (.aload_n 0, 1) := by decide +kernel
theorem dX8_exposure_19 : decode cX8_exposure 19 = .ok (.aload_n 0, 1) := by decide +kernel
theorem dX8_exposure_20 : decode cX8_exposure 20 = .ok (.getfield 7, 3) := by decide +kernel
theorem dX8_exposure_23 : decode cX8_exposure 23 = .ok (.sipush 147, 3) := by decide +kernel
theorem dX8_exposure_26 : decode cX8_exposure 26 = .ok (.iaload, 1) := by decide +kernel
theorem dX8_exposure_27 : decode cX8_exposure 27 = .ok (.invokevirtual 179, 3) := by decide +kernel
theorem dX8_exposure_30 : decode cX8_exposure 30 = .ok (.aload_n 0, 1) := by decide +kernel
theorem dX8_exposure_31 : decode cX8_exposure 31 = .ok (.getfield 28, 3) := by decide +kernel
theorem dX8_exposure_34 : decode cX8_exposure 34 = .ok (.iload_n 1, 1) := by decide +kernel
theorem dX8_exposure_35 : decode cX8_exposure 35 = .ok (.iaload, 1) := by decide +kernel
theorem dX8_exposure_36 : decode cX8_exposure 36 = .ok (.ireturn, 1) := by decide +kernel
set_option maxRecDepth 20000 in
theorem ggX8_onward_X8_canGo : GoodIn wsX8_onward wsX8_canGo := goodIn_r _ [7, 8, 9, 10, 6, 11, 12, 13, 14, 15, 16, 17, 18, 19, 20, 21, 22, 23, 24, 25, 26, 27, 28] (by decide +kernel) (by decide +kernel)
set_option maxRecDepth 20000 in
theorem gX8_onward_X8_canGo : GoodIn wsX8_onward (wsV RX8 136 RX8 yX8_canGo wsX8_canGo) := goodIn_app (goodIn_of _ (by decide +kernel)) ggX8_onward_X8_canGo
set_option maxRecDepth 20000 in
theorem ggX8_onward_X8_next : GoodIn wsX8_onward wsX8_next := goodIn_r _ [11, 12, 13, 6, 14] (by decide +kernel) (by decide +kernel)
set_option maxRecDepth 20000 in
theorem gX8_onward_X8_next : GoodIn wsX8_onward (va_wsS RX8 107 yX8_next wsX8_next) := goodIn_app (goodIn_of _ (by decide +kernel)) ggX8_onward_X8_next
theorem dX8_onward_0 : decode cX8_onward 0 = .ok (.iconst 0, 1) := by decide +kernel
theorem dX8_onward_1 : decode cX8_onward 1 = .ok (.istore_n 2, 1) := by decide +kernel
theorem dX8_onward_2 : decode cX8_onward 2 = .ok (.iload_n 2, 1) := by decide +kernel
theorem dX8_onward_3 : decode cX8_onward 3 = .ok (.iconst 4, 1) := by decide +kernel
theorem dX8_onward_4 : decode cX8_onward 4 = .ok (.if_icmp .ge 72, 3) := by decide +kernel
theorem dX8_onward_7 : decode cX8_onward 7 = .ok (.aload_n 0, 1) := by decide +kernel
theorem dX8_onward_8 : decode cX8_onward 8 = .ok (.iload_n 1, 1) := by decide +kernel
theorem dX8_onward_9 : decode cX8_onward 9 = .ok (.iload_n 2, 1) := by decide +kernel
theorem dX8_onward_10 : decode cX8_onward 10 = .ok (.invokevirtual 136, 3) := by decide +kernel
theorem dX8_onward_13 : decode cX8_onward 13 = .ok (.ifCond .eq 11, 3) := by decide +kernel
theorem dX8_onward_16 : decode cX8_onward 16 = .ok (.iload_n 1, 1) := by decide +kernel
theorem dX8_onward_17 : decode cX8_onward 17 = .ok (.iload_n 2, 1) := by decide +kernel
theorem dX8_onward_18 : decode cX8_onward 18 = .ok (.invokestatic 107, 3) := by decide +kernel
theorem dX8_onward_21 : decode cX8_onward 21 = .ok (.goto 5, 3) := by decide +kernel
theorem dX8_onward_24 : decode cX8_onward 24 = .ok (.bipush (-4), 2) := by decide +kernel
theorem dX8_onward_26 : decode cX8_onward 26 = .ok (.istore_n 3, 1) := by decide +kernel
theorem dX8_onward_27 : decode cX8_onward 27 = .ok (.iload_n 3, 1) := by decide +kernel
theorem dX8_onward_28 : decode cX8_onward 28 = .ok (.bipush (-4), 2) := by decide +kernel
theorem dX8_onward_30 : decode cX8_onward 30 = .ok (.if_icmp .eq 40, 3) := by decide +kernel
theorem dX8_onward_33 : decode cX8_onward 33 = .ok (.aload_n 0, 1) := by decide +kernel
theorem dX8_onward_34 : decode cX8_onward 34 = .ok (.getfield 28, 3) := by decide +kernel
theorem dX8_onward_37 : decode cX8_onward 37 = .ok (.iload_n 3, 1) := by decide +kernel
theorem dX8_onward_38 : decode cX8_onward 38 = .ok (.iaload, 1) := by decide +kernel
theorem dX8_onward_39 : decode cX8_onward 39 = .ok (.bipush (-4), 2) := by decide +kernel
theorem dX8_onward_41 : decode cX8_onward 41 = .ok (.if_icmp .eq 29, 3) := by decide +kernel
theorem dX8_onward_44 : decode cX8_onward 44 = .ok (.aload_n 0, 1) := by decide +kernel
theorem dX8_onward_45 : decode cX8_onward 45 = .ok (.getfield 28, 3) := by decide +kernel
theorem dX8_onward_48 : decode cX8_onward 48 = .ok (.iload_n 3, 1) := by decide +kernel
theorem dX8_onward_49 : decode cX8_onward 49 = .ok (.iaload, 1) := by decide +kernel
theorem dX8_onward_50 : decode cX8_onward 50 = .ok (.iconst 1, 1) := by decide +kernel
theorem dX8_onward_51 : decode cX8_onward 51 = .ok (.iadd, 1) := by decide +kernel
theorem dX8_onward_52 : decode cX8_onward 52 = .ok (.aload_n 0, 1) := by decide +kernel
theorem dX8_onward_53 : decode cX8_onward 53 = .ok (.getfield 22, 3) := by decide +kernel
theorem dX8_onward_56 : decode cX8_onward 56 = .ok (.iload_n 3, 1) := by decide +kernel
theorem dX8_onward_57 : decode cX8_onward 57 = .ok (.iaload, 1) := by decide +kernel
theorem dX8_onward_58 : decode cX8_onward 58 = .ok (.iadd, 1) := by decide +kernel
theorem dX8_onward_59 : decode cX8_onward 59 = .ok (.aload_n 0, 1) := by decide +kernel
theorem dX8_onward_60 : decode cX8_onward 60 = .ok (.getfield 28, 3) := by decide +kernel
theorem dX8_onward_63 : decode cX8_onward 63 = .ok (.iload_n 1, 1) := by decide +kernel
theorem dX8_onward_64 : decode cX8_onward 64 = .ok (.iaload, 1) := by decide +kernel
theorem dX8_onward_65 : decode cX8_onward 65 = .ok (.if_icmp .ne 5, 3) := by decide +kernel
theorem dX8_onward_68 : decode cX8_onward 68 = .ok (.iload_n 3, 1) := by decide +kernel
theorem dX8_onward_69 : decode cX8_onward 69 = .ok (.ireturn, 1) := by decide +kernel
theorem dX8_onward_70 : decode cX8_onward 70 = .ok (.iinc 2 1, 3) := by decide +kernel
theorem dX8_onward_73 : decode cX8_onward 73 = .ok (.goto (-71), 3) := by decide +kernel
theorem dX8_onward_76 : decode cX8_onward 76 = .ok (.bipush (-4), 2) := by decide +kernel
theorem dX8_onward_78 : decode cX8_onward 78 = .ok (.ireturn, 1) := by decide +kernel
set_option maxRecDepth 20000 in
theorem ggX8_way_X8_isCell : GoodIn wsX8_way wsX8_isCell := goodIn_r _ [6, 7, 8, 5, 9] (by decide +kernel) (by decide +kernel)
set_option maxRecDepth 20000 in
theorem gX8_way_X8_isCell : GoodIn wsX8_way (va_wsS RX8 120 yX8_isCell wsX8_isCell) := goodIn_app (goodIn_of _ (by decide +kernel)) ggX8_way_X8_isCell
set_option maxRecDepth 20000 in
theorem ggX8_way_X8_lookTo : GoodIn wsX8_way wsX8_lookTo := goodIn_r _ [13, 1, 14, 15, 16, 17, 5, 18, 19, 20, 21, 22, 23, 24, 25, 26, 2, 27, 28, 29, 30, 31, 32, 33, 34, 35, 36, 37, 38, 39, 40, 41, 42, 43, 7, 8, 9, 44, 45, 46, 47, 48, 49, 50, 51, 52, 53, 54, 55, 56, 57, 58, 59, 60, 61, 62, 63, 64, 65, 66, 67, 68, 69, 70, 71, 72, 73, 74, 75, 76, 77, 82, 83, 84, 85, 86, 87, 88, 89, 90, 91, 92] (by decide +kernel) (by decide +kernel)
set_option maxRecDepth 20000 in
theorem gX8_way_X8_lookTo : GoodIn wsX8_way (wsV RX8 208 RX8 yX8_lookTo wsX8_lookTo) := goodIn_app (goodIn_of _ (by decide +kernel)) ggX8_way_X8_lookTo
set_option maxRecDepth 20000 in
theorem ggX8_way_X8_onward : GoodIn wsX8_way wsX8_onward := goodIn_r _ [81, 1, 14, 64, 65, 66, 5, 67, 2, 68, 69, 70, 7, 8, 9, 71, 72, 73, 82, 83, 84, 85, 86, 87, 88, 89, 90, 91, 92] (by decide +kernel) (by decide +kernel)
set_option maxRecDepth 20000 in
theorem gX8_way_X8_onward : GoodIn wsX8_way (wsV RX8 211 RX8 yX8_onward wsX8_onward) := goodIn_app (goodIn_of _ (by decide +kernel)) ggX8_way_X8_onward
theorem dX8_way_0 : decode cX8_way 0 = .ok (.iload_n 1, 1) := by decide +kernel
theorem dX8_way_1 : decode cX8_way 1 = .ok (.invokestatic 120, 3) := by decide +kernel
theorem dX8_way_4 : decode cX8_way 4 = .ok (.ifCond .eq 7, 3) := by decide +kernel
theorem dX8_way_7 : decode cX8_way 7 = .ok (.iload_n 2, 1) := by decide +kernel
theorem dX8_way_8 : decode cX8_way 8 = .ok (.ifCond .ge 5, 3) := by decide +kernel
theorem dX8_way_11 : decode cX8_way 11 = .ok (.iconst (-1), 1) := by decide +kernel
theorem dX8_way_12 : decode cX8_way 12 = .ok (.ireturn, 1) := by decide +kernel
theorem dX8_way_13 : decode cX8_way 13 = .ok (.aload_n 0, 1) := by decide +kernel
theorem dX8_way_14 : decode cX8_way 14 = .ok (.iload_n 1, 1) := by decide +kernel
theorem dX8_way_15 : decode cX8_way 15 = .ok (.invokevirtual 208, 3) := by decide +kernel
theorem dX8_way_18 : decode cX8_way 18 = .ok (.aload_n 0, 1) := by decide +kernel
theorem dX8_way_19 : decode cX8_way 19 = .ok (.getfield 28, 3) := by decide +kernel
theorem dX8_way_22 : decode cX8_way 22 = .ok (.aload_n 0, 1) := by decide +kernel
theorem dX8_way_23 : decode cX8_way 23 = .ok (.getfield 7, 3) := by decide +kernel
theorem dX8_way_26 : decode cX8_way 26 = .ok (.sipush 147, 3) := by decide +kernel
theorem dX8_way_29 : decode cX8_way 29 = .ok (.iaload, 1) := by decide +kernel
theorem dX8_way_30 : decode cX8_way 30 = .ok (.iaload, 1) := by decide +kernel
theorem dX8_way_31 : decode cX8_way 31 = .ok (.bipush (-4), 2) := by decide +kernel
theorem dX8_way_33 : decode cX8_way 33 = .ok (.if_icmp .ne 8, 3) := by decide +kernel
theorem dX8_way_36 : decode cX8_way 36 = .ok (.bipush (-4), 2) := by decide +kernel
theorem dX8_way_38 : decode cX8_way 38 = .ok (.goto 11, 3) := by decide +kernel
theorem dX8_way_41 : decode cX8_way 41 = .ok (.aload_n 0, 1) := by decide +kernel
theorem dX8_way_42 : decode cX8_way 42 = .ok (.getfield 7, 3) := by decide +kernel
theorem dX8_way_45 : decode cX8_way 45 = .ok (.sipush 147, 3) := by decide +kernel
theorem dX8_way_48 : decode cX8_way 48 = .ok (.iaload, 1) := by decide +kernel
theorem dX8_way_49 : decode cX8_way 49 = .ok (.istore_n 3, 1) := by decide +kernel
theorem dX8_way_50 : decode cX8_way 50 = .ok (.iconst 0, 1) := by decide +kernel
theorem dX8_way_51 : decode cX8_way 51 = .ok (.istore 4, 2) := by decide +kernel
theorem dX8_way_53 : decode cX8_way 53 = .ok (.iload 4, 2) := by decide +kernel
theorem dX8_way_55 : decode cX8_way 55 = .ok (.iload_n 2, 1) := by decide +kernel
theorem dX8_way_56 : decode cX8_way 56 = .ok (.if_icmp .ge 31, 3) := by decide +kernel
theorem dX8_way_59 : decode cX8_way 59 = .ok (.iload_n 3, 1) := by decide +kernel
theorem dX8_way_60 : decode cX8_way 60 = .ok (.bipush (-4), 2) := by decide +kernel
theorem dX8_way_62 : decode cX8_way 62 = .ok (.if_icmp .eq 25, 3) := by decide +kernel
theorem dX8_way_65 : decode cX8_way 65 = .ok (.iload_n 3, 1) := by decide +kernel
theorem dX8_way_66 : decode cX8_way 66 = .ok (.iload_n 1, 1) := by decide +kernel
theorem dX8_way_67 : decode cX8_way 67 = .ok (.if_icmp .ne 8, 3) := by decide +kernel
theorem dX8_way_70 : decode cX8_way 70 = .ok (.bipush (-4), 2) := by decide +kernel
theorem dX8_way_72 : decode cX8_way 72 = .ok (.goto 8, 3) := by decide +kernel
theorem dX8_way_75 : decode cX8_way 75 = .ok (.aload_n 0, 1) := by decide +kernel
theorem dX8_way_76 : decode cX8_way 76 = .ok (.iload_n 3, 1) := by decide +kernel
theorem dX8_way_77 : decode cX8_way 77 = .ok (.invokevirtual 211, 3) := by decide +kernel
theorem dX8_way_80 : decode cX8_way 80 = .ok (.istore_n 3, 1) := by decide +kernel
theorem dX8_way_81 : decode cX8_way 81 = .ok (.iinc 4 1, 3) := by decide +kernel
theorem dX8_way_84 : decode cX8_way 84 = .ok (.goto (-31), 3) := by decide +kernel
theorem dX8_way_87 : decode cX8_way 87 = .ok (.iload_n 3, 1) := by decide +kernel
theorem dX8_way_88 : decode cX8_way 88 = .ok (.ireturn, 1) := by decide +kernel
theorem dX8_putAside_0 : decode cX8_putAside 0 = .ok (.iconst 0, 1) := by decide +kernel
theorem dX8_putAside_1 : decode cX8_putAside 1 = .ok (.istore_n 1, 1) := by decide +kernel
theorem dX8_putAside_2 : decode cX8_putAside 2 = .ok (.iload_n 1, 1) := by decide +kernel
theorem dX8_putAside_3 : decode cX8_putAside 3 = .ok (.sipush 151, 3) := by decide +kernel
theorem dX8_putAside_6 : decode cX8_putAside 6 = .ok (.if_icmp .ge 21, 3) := by decide +kernel
theorem dX8_putAside_9 : decode cX8_putAside 9 = .ok (.aload_n 0, 1) := by decide +kernel
theorem dX8_putAside_10 : decode cX8_putAside 10 = .ok (.getfield 19, 3) := by decide +kernel
theorem dX8_putAside_13 : decode cX8_putAside 13 = .ok (.iload_n 1, 1) := by decide +kernel
theorem dX8_putAside_14 : decode cX8_putAside 14 = .ok (.aload_n 0, 1) := by decide +kernel
theorem dX8_putAside_15 : decode cX8_putAside 15 = .ok (.getfield 7, 3) := by decide +kernel
theorem dX8_putAside_18 : decode cX8_putAside 18 = .ok (.iload_n 1, 1) := by decide +kernel
theorem dX8_putAside_19 : decode cX8_putAside 19 = .ok (.iaload, 1) := by decide +kernel
theorem dX8_putAside_20 : decode cX8_putAside 20 = .ok (.iastore, 1) := by decide +kernel
theorem dX8_putAside_21 : decode cX8_putAside 21 = .ok (.iinc 1 1, 3) := by decide +kernel
theorem dX8_putAside_24 : decode cX8_putAside 24 = .ok (.goto (-22), 3) := by decide +kernel
theorem dX8_putAside_27 : decode cX8_putAside 27 = .ok (.return_, 1) := by decide +kernel
theorem dX8_putBack_0 : decode cX8_putBack 0 = .ok (.iconst 0, 1) := by decide +kernel
theorem dX8_putBack_1 : decode cX8_putBack 1 = .ok (.istore_n 1, 1) := by decide +kernel
theorem dX8_putBack_2 : decode cX8_putBack 2 = .ok (.iload_n 1, 1) := by decide +kernel
theorem dX8_putBack_3 : decode cX8_putBack 3 = .ok (.sipush 151, 3) := by decide +kernel
theorem dX8_putBack_6 : decode cX8_putBack 6 = .ok (.if_icmp .ge 21, 3) := by decide +kernel
theorem dX8_putBack_9 : decode cX8_putBack 9 = .ok (.aload_n 0, 1) := by decide +kernel
theorem dX8_putBack_10 : decode cX8_putBack 10 = .ok (.getfield 7, 3) := by decide +kernel
theorem dX8_putBack_13 : decode cX8_putBack 13 = .ok (.iload_n 1, 1) := by decide +kernel
theorem dX8_putBack_14 : decode cX8_putBack 14 = .ok (.aload_n 0, 1) := by decide +kernel
theorem dX8_putBack_15 : decode cX8_putBack 15 = .ok (.getfield 19, 3) := by decide +kernel
theorem dX8_putBack_18 : decode cX8_putBack 18 = .ok (.iload_n 1, 1) := by decide +kernel
theorem dX8_putBack_19 : decode cX8_putBack 19 = .ok (.iaload, 1) := by decide +kernel
theorem dX8_putBack_20 : decode cX8_putBack 20 = .ok (.iastore, 1) := by decide +kernel
theorem dX8_putBack_21 : decode cX8_putBack 21 = .ok (.iinc 1 1, 3) := by decide +kernel
theorem dX8_putBack_24 : decode cX8_putBack 24 = .ok (.goto (-22), 3) := by decide +kernel
theorem dX8_putBack_27 : decode cX8_putBack 27 = .ok (.return_, 1) := by decide +kernel
set_option maxRecDepth 20000 in
theorem ggX8_ifPut_X8_isCell : GoodIn wsX8_ifPut wsX8_isCell := goodIn_r _ [4, 5, 6, 3, 7] (by decide +kernel) (by decide +kernel)
set_option maxRecDepth 20000 in
theorem gX8_ifPut_X8_isCell : GoodIn wsX8_ifPut (va_wsS RX8 120 yX8_isCell wsX8_isCell) := goodIn_app (goodIn_of _ (by decide +kernel)) ggX8_ifPut_X8_isCell
set_option maxRecDepth 20000 in
theorem ggX8_ifPut_X8_in : GoodIn wsX8_ifPut wsX8_in := goodIn_r _ [7] (by decide +kernel) (by decide +kernel)
set_option maxRecDepth 20000 in
theorem gX8_ifPut_X8_in : GoodIn wsX8_ifPut (va_wsS RX8 37 yX8_in wsX8_in) := goodIn_app (goodIn_of _ (by decide +kernel)) ggX8_ifPut_X8_in
set_option maxRecDepth 20000 in
theorem ggX8_ifPut_X8_mayPut : GoodIn wsX8_ifPut wsX8_mayPut := goodIn_r _ [11, 12, 13, 14, 3, 15, 126, 127, 128, 129, 130, 131, 132, 133, 134, 135, 136] (by decide +kernel) (by decide +kernel)
set_option maxRecDepth 20000 in
theorem gX8_ifPut_X8_mayPut : GoodIn wsX8_ifPut (wsV RX8 123 RX8 yX8_mayPut wsX8_mayPut) := goodIn_app (goodIn_of _ (by decide +kernel)) ggX8_ifPut_X8_mayPut
set_option maxRecDepth 20000 in
theorem ggX8_ifPut_X8_putAside : GoodIn wsX8_ifPut wsX8_putAside := goodIn_r _ [19, 20, 12, 126, 127, 128, 129, 130, 131, 132, 133, 134, 135, 136] (by decide +kernel) (by decide +kernel)
set_option maxRecDepth 20000 in
theorem gX8_ifPut_X8_putAside : GoodIn wsX8_ifPut (wsV RX8 214 RX8 yX8_putAside wsX8_putAside) := goodIn_app (goodIn_of _ (by decide +kernel)) ggX8_ifPut_X8_putAside
set_option maxRecDepth 20000 in
theorem ggX8_ifPut_X8_lay : GoodIn wsX8_ifPut wsX8_lay := goodIn_r _ [24, 12, 25, 26, 3, 27, 28, 29, 30, 31, 32, 33, 34, 35, 126, 127, 128, 129, 130, 131, 132, 133, 134, 135, 136] (by decide +kernel) (by decide +kernel)
set_option maxRecDepth 20000 in
theorem gX8_ifPut_X8_lay : GoodIn wsX8_ifPut (wsV RX8 126 RX8 yX8_lay wsX8_lay) := goodIn_app (goodIn_of _ (by decide +kernel)) ggX8_ifPut_X8_lay
set_option maxRecDepth 20000 in
theorem ggX8_ifPut_X8_litCells : GoodIn wsX8_ifPut wsX8_litCells := goodIn_r _ [39, 40, 12, 41, 42, 43, 3, 44, 45, 46, 47, 48, 49, 50, 51, 52, 53, 54, 55, 56, 25, 26, 27, 57, 58, 59, 60, 61, 62, 5, 6, 7, 63, 64, 65, 66, 67, 68, 69, 70, 71, 72, 73, 74, 75, 76, 77, 78, 79, 80, 81, 82, 126, 127, 128, 129, 130, 131, 132, 133, 134, 135, 136] (by decide +kernel) (by decide +kernel)
set_option maxRecDepth 20000 in
theorem gX8_ifPut_X8_litCells : GoodIn wsX8_ifPut (wsV RX8 185 RX8 yX8_litCells wsX8_litCells) := goodIn_app (goodIn_of _ (by decide +kernel)) ggX8_ifPut_X8_litCells
set_option maxRecDepth 20000 in
theorem ggX8_ifPut_X8_seenCells : GoodIn wsX8_ifPut wsX8_seenCells := goodIn_r _ [86, 87, 88, 89, 3, 90, 12, 91, 92, 93, 94, 95, 96, 97, 45, 46, 47, 48, 49, 50, 51, 52, 53, 54, 55, 56, 25, 26, 27, 57, 58, 59, 60, 61, 62, 5, 6, 7, 63, 64, 65, 66, 67, 68, 69, 70, 71, 72, 73, 74, 75, 76, 77, 78, 79, 80, 81, 82, 126, 127, 128, 129, 130, 131, 132, 133, 134, 135, 136] (by decide +kernel) (by decide +kernel)
set_option maxRecDepth 20000 in
theorem gX8_ifPut_X8_seenCells : GoodIn wsX8_ifPut (wsV RX8 188 RX8 yX8_seenCells wsX8_seenCells) := goodIn_app (goodIn_of _ (by decide +kernel)) ggX8_ifPut_X8_seenCells
set_option maxRecDepth 20000 in
theorem ggX8_ifPut_X8_reached : GoodIn wsX8_ifPut wsX8_reached := goodIn_r _ [101, 12, 102, 103, 104, 105, 3, 106, 40, 107, 108, 109, 110, 41, 42, 43, 44, 45, 46, 47, 48, 49, 50, 51, 52, 53, 54, 55, 56, 25, 26, 27, 57, 58, 59, 60, 61, 62, 5, 6, 7, 63, 64, 65, 66, 67, 68, 69, 70, 71, 72, 73, 74, 75, 76, 77, 78, 79, 80, 81, 82, 111, 112, 113, 114, 115, 116, 117, 13, 14, 15, 118, 119, 120, 121, 126, 127, 128, 129, 130, 131, 132, 133, 134, 135, 136] (by decide +kernel) (by decide +kernel)
set_option maxRecDepth 20000 in
theorem gX8_ifPut_X8_reached : GoodIn wsX8_ifPut (wsV RX8 191 RX8 yX8_reached wsX8_reached) := goodIn_app (goodIn_of _ (by decide +kernel)) ggX8_ifPut_X8_reached
set_option maxRecDepth 20000 in
theorem ggX8_ifPut_X8_putBack : GoodIn wsX8_ifPut wsX8_putBack := goodIn_r _ [125, 12, 20, 126, 127, 128, 129, 130, 131, 132, 133, 134, 135, 136] (by decide +kernel) (by decide +kernel)
set_option maxRecDepth 20000 in
theorem gX8_ifPut_X8_putBack : GoodIn wsX8_ifPut (wsV RX8 217 RX8 yX8_putBack wsX8_putBack) := goodIn_app (goodIn_of _ (by decide +kernel)) ggX8_ifPut_X8_putBack
theorem dX8_ifPut_0 : decode cX8_ifPut 0 = .ok (.iload_n 1, 1) := by decide +kernel
theorem dX8_ifPut_1 : decode cX8_ifPut 1 = .ok (.invokestatic 120, 3) := by decide +kernel
theorem dX8_ifPut_4 : decode cX8_ifPut 4 = .ok (.ifCond .eq 21, 3) := by decide +kernel
theorem dX8_ifPut_7 : decode cX8_ifPut 7 = .ok (.iload_n 2, 1) := by decide +kernel
theorem dX8_ifPut_8 : decode cX8_ifPut 8 = .ok (.iconst 0, 1) := by decide +kernel
theorem dX8_ifPut_9 : decode cX8_ifPut 9 = .ok (.iconst 3, 1) := by decide +kernel
theorem dX8_ifPut_10 : decode cX8_ifPut 10 = .ok (.invokestatic 37, 3) := by decide +kernel
theorem dX8_ifPut_13 : decode cX8_ifPut 13 = .ok (.ifCond .eq 12, 3) := by decide +kernel
theorem dX8_ifPut_16 : decode cX8_ifPut 16 = .ok (.iload_n 3, 1) := by decide +kernel
theorem dX8_ifPut_17 : decode cX8_ifPut 17 = .ok (.iconst 0, 1) := by decide +kernel
theorem dX8_ifPut_18 : decode cX8_ifPut 18 = .ok (.iconst 2, 1) := by decide +kernel
theorem dX8_ifPut_19 : decode cX8_ifPut 19 = .ok (.invokestatic 37, 3) := by decide +kernel
theorem dX8_ifPut_22 : decode cX8_ifPut 22 = .ok (.ifCond .ne 5, 3) := by decide +kernel
theorem dX8_ifPut_25 : decode cX8_ifPut 25 = .ok (.iconst (-1), 1) := by decide +kernel
theorem dX8_ifPut_26 : decode cX8_ifPut 26 = .ok (.ireturn, 1) := by decide +kernel
theorem dX8_ifPut_27 : decode cX8_ifPut 27 = .ok (.aload_n 0, 1) := by decide +kernel
theorem dX8_ifPut_28 : decode cX8_ifPut 28 = .ok (.iload_n 1, 1) := by decide +kernel
theorem dX8_ifPut_29 : decode cX8_ifPut 29 = .ok (.iload_n 2, 1) := by decide +kernel
theorem dX8_ifPut_30 : decode cX8_ifPut 30 = .ok (.invokevirtual 123, 3) := by decide +kernel
theorem dX8_ifPut_33 : decode cX8_ifPut 33 = .ok (.ifCond .ne 6, 3) := by decide +kernel
theorem dX8_ifPut_36 : decode cX8_ifPut 36 = .ok (.bipush (-2), 2) := by decide +kernel
theorem dX8_ifPut_38 : decode cX8_ifPut 38 = .ok (.ireturn, 1) := by decide +kernel
theorem dX8_ifPut_39 : decode cX8_ifPut 39 = .ok (.aload_n 0, 1) := by decide +kernel
theorem dX8_ifPut_40 : decode cX8_ifPut 40 = .ok (.invokevirtual 214, 3) := by decide +kernel
theorem dX8_ifPut_43 : decode cX8_ifPut 43 = .ok (.aload_n 0, 1) := by decide +kernel
theorem dX8_ifPut_44 : decode cX8_ifPut 44 = .ok (.iload_n 1, 1) := by decide +kernel
theorem dX8_ifPut_45 : decode cX8_ifPut 45 = .ok (.iload_n 2, 1) := by decide +kernel
theorem dX8_ifPut_46 : decode cX8_ifPut 46 = .ok (.invokevirtual 126, 3) := by decide +kernel
theorem dX8_ifPut_49 : decode cX8_ifPut 49 = .ok (.iload_n 3, 1) := by decide +kernel
theorem dX8_ifPut_50 : decode cX8_ifPut 50 = .ok (.ifCond .ne 10, 3) := by decide +kernel
theorem dX8_ifPut_53 : decode cX8_ifPut 53 = .ok (.aload_n 0, 1) := by decide +kernel
theorem dX8_ifPut_54 : decode cX8_ifPut 54 = .ok (.invokevirtual 185, 3) := by decide +kernel
theorem dX8_ifPut_57 : decode cX8_ifPut 57 = .ok (.goto 19, 3) := by decide +kernel
theorem dX8_ifPut_60 : decode cX8_ifPut 60 = .ok (.iload_n 3, 1) := by decide +kernel
theorem dX8_ifPut_61 : decode cX8_ifPut 61 = .ok (.iconst 1, 1) := by decide +kernel
theorem dX8_ifPut_62 : decode cX8_ifPut 62 = .ok (.if_icmp .ne 10, 3) := by decide +kernel
theorem dX8_ifPut_65 : decode cX8_ifPut 65 = .ok (.aload_n 0, 1) := by decide +kernel
theorem dX8_ifPut_66 : decode cX8_ifPut 66 = .ok (.invokevirtual 188, 3) := by decide +kernel
theorem dX8_ifPut_69 : decode cX8_ifPut 69 = .ok (.goto 7, 3) := by decide +kernel
theorem dX8_ifPut_72 : decode cX8_ifPut 72 = .ok (.aload_n 0, 1) := by decide +kernel
theorem dX8_ifPut_73 : decode cX8_ifPut 73 = .ok (.invokevirtual 191, 3) := by decide +kernel
theorem dX8_ifPut_76 : decode cX8_ifPut 76 = .ok (.istore 4, 2) := by decide +kernel
theorem dX8_ifPut_78 : decode cX8_ifPut 78 = .ok (.aload_n 0, 1) := by decide +kernel
theorem dX8_ifPut_79 : decode cX8_ifPut 79 = .ok (.invokevirtual 217, 3) := by decide +kernel
theorem dX8_ifPut_82 : decode cX8_ifPut 82 = .ok (.iload 4, 2) := by decide +kernel
theorem dX8_ifPut_84 : decode cX8_ifPut 84 = .ok (.ireturn, 1) := by decide +kernel
set_option maxRecDepth 20000 in
theorem ggX8_litWith_X8_strengthAt : GoodIn wsX8_litWith wsX8_strengthAt := goodIn_r _ [6] (by decide +kernel) (by decide +kernel)
set_option maxRecDepth 20000 in
theorem gX8_litWith_X8_strengthAt : GoodIn wsX8_litWith (va_wsS RX8 84 yX8_strengthAt wsX8_strengthAt) := goodIn_app (goodIn_of _ (by decide +kernel)) ggX8_litWith_X8_strengthAt
set_option maxRecDepth 20000 in
theorem ggX8_litWith_X8_isFree : GoodIn wsX8_litWith wsX8_isFree := goodIn_r _ [10, 2, 11, 12, 5, 13, 14, 15, 16, 17, 18, 19, 20, 21, 22, 23, 24, 25, 26, 27, 28, 29, 30, 31, 32, 33, 34, 35, 36, 37, 38, 39, 40, 41, 42, 43, 44, 45, 46, 47, 48, 49, 50] (by decide +kernel) (by decide +kernel)
set_option maxRecDepth 20000 in
theorem gX8_litWith_X8_isFree : GoodIn wsX8_litWith (wsV RX8 81 RX8 yX8_isFree wsX8_isFree) := goodIn_app (goodIn_of _ (by decide +kernel)) ggX8_litWith_X8_isFree
theorem dX8_litWith_0 : decode cX8_litWith 0 = .ok (.iconst 0, 1) := by decide +kernel
theorem dX8_litWith_1 : decode cX8_litWith 1 = .ok (.istore_n 3, 1) := by decide +kernel
theorem dX8_litWith_2 : decode cX8_litWith 2 = .ok (.iconst 0, 1) := by decide +kernel
theorem dX8_litWith_3 : decode cX8_litWith 3 = .ok (.istore 4, 2) := by decide +kernel
theorem dX8_litWith_5 : decode cX8_litWith 5 = .ok (.iload 4, 2) := by decide +kernel
theorem dX8_litWith_7 : decode cX8_litWith 7 = .ok (.bipush 64, 2) := by decide +kernel
theorem dX8_litWith_9 : decode cX8_litWith 9 = .ok (.if_icmp .ge 75, 3) := by decide +kernel
theorem dX8_litWith_12 : decode cX8_litWith 12 = .ok (.iload_n 1, 1) := by decide +kernel
theorem dX8_litWith_13 : decode cX8_litWith 13 = .ok (.iload 4, 2) := by decide +kernel
theorem dX8_litWith_15 : decode cX8_litWith 15 = .ok (.iload_n 2, 1) := by decide +kernel
theorem dX8_litWith_16 : decode cX8_litWith 16 = .ok (.invokestatic 84, 3) := by decide +kernel
theorem dX8_litWith_19 : decode cX8_litWith 19 = .ok (.istore 5, 2) := by decide +kernel
theorem dX8_litWith_21 : decode cX8_litWith 21 = .ok (.iload_n 3, 1) := by decide +kernel
theorem dX8_litWith_22 : decode cX8_litWith 22 = .ok (.aload_n 0, 1) := by decide +kernel
theorem dX8_litWith_23 : decode cX8_litWith 23 = .ok (.getfield 22, 3) := by decide +kernel
theorem dX8_litWith_26 : decode cX8_litWith 26 = .ok (.iload 4, 2) := by decide +kernel
theorem dX8_litWith_28 : decode cX8_litWith 28 = .ok (.iaload, 1) := by decide +kernel
theorem dX8_litWith_29 : decode cX8_litWith 29 = .ok (.aload_n 0, 1) := by decide +kernel
theorem dX8_litWith_30 : decode cX8_litWith 30 = .ok (.getfield 7, 3) := by decide +kernel
theorem dX8_litWith_33 : decode cX8_litWith 33 = .ok (.sipush 149, 3) := by decide +kernel
theorem dX8_litWith_36 : decode cX8_litWith 36 = .ok (.iaload, 1) := by decide +kernel
theorem dX8_litWith_37 : decode cX8_litWith 37 = .ok (.if_icmp .ge 34, 3) := by decide +kernel
theorem dX8_litWith_40 : decode cX8_litWith 40 = .ok (.aload_n 0, 1) := by decide +kernel
theorem dX8_litWith_41 : decode cX8_litWith 41 = .ok (.getfield 22, 3) := by decide +kernel
theorem dX8_litWith_44 : decode cX8_litWith 44 = .ok (.iload 4, 2) := by decide +kernel
theorem dX8_litWith_46 : decode cX8_litWith 46 = .ok (.iaload, 1) := by decide +kernel
theorem dX8_litWith_47 : decode cX8_litWith 47 = .ok (.iload 5, 2) := by decide +kernel
theorem dX8_litWith_49 : decode cX8_litWith 49 = .ok (.iadd, 1) := by decide +kernel
theorem dX8_litWith_50 : decode cX8_litWith 50 = .ok (.aload_n 0, 1) := by decide +kernel
theorem dX8_litWith_51 : decode cX8_litWith 51 = .ok (.getfield 7, 3) := by decide +kernel
theorem dX8_litWith_54 : decode cX8_litWith 54 = .ok (.sipush 149, 3) := by decide +kernel
theorem dX8_litWith_57 : decode cX8_litWith 57 = .ok (.iaload, 1) := by decide +kernel
theorem dX8_litWith_58 : decode cX8_litWith 58 = .ok (.if_icmp .lt 17, 3) := by decide +kernel
theorem dX8_litWith_61 : decode cX8_litWith 61 = .ok (.aload_n 0, 1) := by decide +kernel
theorem dX8_litWith_62 : decode cX8_litWith 62 = .ok (.iload_n 1, 1) := by decide +kernel
theorem dX8_litWith_63 : decode cX8_litWith 63 = .ok (.iload 4, 2) := by decide +kernel
theorem dX8_litWith_65 : decode cX8_litWith 65 = .ok (.invokevirtual 81, 3) := by decide +kernel
theorem dX8_litWith_68 : decode cX8_litWith 68 = .ok (.ifCond .eq 7, 3) := by decide +kernel
theorem dX8_litWith_71 : decode cX8_litWith 71 = .ok (.iconst 1, 1) := by decide +kernel
theorem dX8_litWith_72 : decode cX8_litWith 72 = .ok (.goto 4, 3) := by decide +kernel
theorem dX8_litWith_75 : decode cX8_litWith 75 = .ok (.iconst 0, 1) := by decide +kernel
theorem dX8_litWith_76 : decode cX8_litWith 76 = .ok (.iadd, 1) := by decide +kernel
theorem dX8_litWith_77 : decode cX8_litWith 77 = .ok (.istore_n 3, 1) := by decide +kernel
theorem dX8_litWith_78 : decode cX8_litWith 78 = .ok (.iinc 4 1, 3) := by decide +kernel
theorem dX8_litWith_81 : decode cX8_litWith 81 = .ok (.goto (-76), 3) := by decide +kernel
theorem dX8_litWith_84 : decode cX8_litWith 84 = .ok (.iload_n 3, 1) := by decide +kernel
theorem dX8_litWith_85 : decode cX8_litWith 85 = .ok (.ireturn, 1) := by decide +kernel
set_option maxRecDepth 20000 in
theorem ggX8_bestLamp_X8_in : GoodIn wsX8_bestLamp wsX8_in := goodIn_r _ [4] (by decide +kernel) (by decide +kernel)
set_option maxRecDepth 20000 in
theorem gX8_bestLamp_X8_in : GoodIn wsX8_bestLamp (va_wsS RX8 37 yX8_in wsX8_in) := goodIn_app (goodIn_of _ (by decide +kernel)) ggX8_bestLamp_X8_in
set_option maxRecDepth 20000 in
theorem ggX8_bestLamp_X8_shine : GoodIn wsX8_bestLamp wsX8_shine := goodIn_r _ [8, 9, 10, 11, 12, 3, 13, 14, 15, 16, 17, 18, 19, 20, 21, 22, 23, 24, 25, 26, 27, 28, 29, 30, 31, 1, 2, 4, 32, 33, 34, 35, 36, 37, 38, 39, 40, 41, 42, 43, 44, 45, 46, 47, 48, 49, 50, 51, 64, 65, 66, 67, 68, 69, 70, 71, 72, 73, 74] (by decide +kernel) (by decide +kernel)
set_option maxRecDepth 20000 in
theorem gX8_bestLamp_X8_shine : GoodIn wsX8_bestLamp (wsV RX8 95 RX8 yX8_shine wsX8_shine) := goodIn_app (goodIn_of _ (by decide +kernel)) ggX8_bestLamp_X8_shine
set_option maxRecDepth 20000 in
theorem ggX8_bestLamp_X8_mayShine : GoodIn wsX8_bestLamp wsX8_mayShine := goodIn_r _ [55, 14, 23, 24, 3, 25, 56, 57, 58, 59, 64, 65, 66, 67, 68, 69, 70, 71, 72, 73, 74] (by decide +kernel) (by decide +kernel)
set_option maxRecDepth 20000 in
theorem gX8_bestLamp_X8_mayShine : GoodIn wsX8_bestLamp (wsV RX8 130 RX8 yX8_mayShine wsX8_mayShine) := goodIn_app (goodIn_of _ (by decide +kernel)) ggX8_bestLamp_X8_mayShine
set_option maxRecDepth 20000 in
theorem ggX8_bestLamp_X8_litWith : GoodIn wsX8_bestLamp wsX8_litWith := goodIn_r _ [63, 9, 14, 49, 50, 3, 51, 19, 20, 21, 22, 23, 24, 25, 26, 27, 28, 29, 30, 31, 1, 2, 4, 32, 33, 34, 35, 36, 37, 38, 39, 40, 41, 42, 43, 44, 45, 46, 47, 48, 64, 65, 66, 67, 68, 69, 70, 71, 72, 73, 74] (by decide +kernel) (by decide +kernel)
set_option maxRecDepth 20000 in
theorem gX8_bestLamp_X8_litWith : GoodIn wsX8_bestLamp (wsV RX8 220 RX8 yX8_litWith wsX8_litWith) := goodIn_app (goodIn_of _ (by decide +kernel)) ggX8_bestLamp_X8_litWith
theorem dX8_bestLamp_0 : decode cX8_bestLamp 0 = .ok (.iload_n 1, 1) := by decide +kernel
theorem dX8_bestLamp_1 : decode cX8_bestLamp 1 = .ok (.iconst 1, 1) := by decide +kernel
theorem dX8_bestLamp_2 : decode cX8_bestLamp 2 = .ok (.bipush 9, 2) := by decide +kernel
theorem dX8_bestLamp_4 : decode cX8_bestLamp 4 = .ok (.invokestatic 37, 3) := by decide +kernel
theorem dX8_bestLamp_7 : decode cX8_bestLamp 7 = .ok (.ifCond .ne 5, 3) := by decide +kernel
theorem dX8_bestLamp_10 : decode cX8_bestLamp 10 = .ok (.iconst (-1), 1) := by decide +kernel
theorem dX8_bestLamp_11 : decode cX8_bestLamp 11 = .ok (.ireturn, 1) := by decide +kernel
theorem dX8_bestLamp_12 : decode cX8_bestLamp 12 = .ok (.aload_n 0, 1) := by decide +kernel
theorem dX8_bestLamp_13 : decode cX8_bestLamp 13 = .ok (.invokevirtual 95, 3) := by decide +kernel
theorem dX8_bestLamp_16 : decode cX8_bestLamp 16 = .ok (.bipush (-4), 2) := by decide +kernel
theorem dX8_bestLamp_18 : decode cX8_bestLamp 18 = .ok (.istore_n 2, 1) := by decide +kernel
theorem dX8_bestLamp_19 : decode cX8_bestLamp 19 = .ok (.iconst (-1), 1) := by decide +kernel
theorem dX8_bestLamp_20 : decode cX8_bestLamp 20 = .ok (.istore_n 3, 1) := by decide +kernel
theorem dX8_bestLamp_21 : decode cX8_bestLamp 21 = .ok (.iconst 0, 1) := by decide +kernel
theorem dX8_bestLamp_22 : decode cX8_bestLamp 22 = .ok (.istore 4, 2) := by decide +kernel
theorem dX8_bestLamp_24 : decode cX8_bestLamp 24 = .ok (.iload 4, 2) := by decide +kernel
theorem dX8_bestLamp_26 : decode cX8_bestLamp 26 = .ok (.bipush 64, 2) := by decide +kernel
theorem dX8_bestLamp_28 : decode cX8_bestLamp 28 = .ok (.if_icmp .ge 57, 3) := by decide +kernel
theorem dX8_bestLamp_31 : decode cX8_bestLamp 31 = .ok (.aload_n 0, 1) := by decide +kernel
theorem dX8_bestLamp_32 : decode cX8_bestLamp 32 = .ok (.iload 4, 2) := by decide +kernel
theorem dX8_bestLamp_34 : decode cX8_bestLamp 34 = .ok (.invokevirtual 130, 3) := by decide +kernel
theorem dX8_bestLamp_37 : decode cX8_bestLamp 37 = .ok (.ifCond .eq 13, 3) := by decide +kernel
theorem dX8_bestLamp_40 : decode cX8_bestLamp 40 = .ok (.aload_n 0, 1) := by decide +kernel
theorem dX8_bestLamp_41 : decode cX8_bestLamp 41 = .ok (.iload 4, 2) := by decide +kernel
theorem dX8_bestLamp_43 : decode cX8_bestLamp 43 = .ok (.iload_n 1, 1) := by decide +kernel
theorem dX8_bestLamp_44 : decode cX8_bestLamp 44 = .ok (.invokevirtual 220, 3) := by decide +kernel
theorem dX8_bestLamp_47 : decode cX8_bestLamp 47 = .ok (.goto 4, 3) := by decide +kernel
theorem dX8_bestLamp_50 : decode cX8_bestLamp 50 = .ok (.iconst (-1), 1) := by decide +kernel
theorem dX8_bestLamp_51 : decode cX8_bestLamp 51 = .ok (.istore 5, 2) := by decide +kernel
theorem dX8_bestLamp_53 : decode cX8_bestLamp 53 = .ok (.iload 5, 2) := by decide +kernel
theorem dX8_bestLamp_55 : decode cX8_bestLamp 55 = .ok (.iload_n 3, 1) := by decide +kernel
theorem dX8_bestLamp_56 : decode cX8_bestLamp 56 = .ok (.if_icmp .le 8, 3) := by decide +kernel
theorem dX8_bestLamp_59 : decode cX8_bestLamp 59 = .ok (.iload 4, 2) := by decide +kernel
theorem dX8_bestLamp_61 : decode cX8_bestLamp 61 = .ok (.goto 4, 3) := by decide +kernel
theorem dX8_bestLamp_64 : decode cX8_bestLamp 64 = .ok (.iload_n 2, 1) := by decide +kernel
theorem dX8_bestLamp_65 : decode cX8_bestLamp 65 = .ok (.istore_n 2, 1) := by decide +kernel
theorem dX8_bestLamp_66 : decode cX8_bestLamp 66 = .ok (.iload 5, 2) := by decide +kernel
theorem dX8_bestLamp_68 : decode cX8_bestLamp 68 = .ok (.iload_n 3, 1) := by decide +kernel
theorem dX8_bestLamp_69 : decode cX8_bestLamp 69 = .ok (.if_icmp .le 8, 3) := by decide +kernel
theorem dX8_bestLamp_72 : decode cX8_bestLamp 72 = .ok (.iload 5, 2) := by decide +kernel
theorem dX8_bestLamp_74 : decode cX8_bestLamp 74 = .ok (.goto 4, 3) := by decide +kernel
theorem dX8_bestLamp_77 : decode cX8_bestLamp 77 = .ok (.iload_n 3, 1) := by decide +kernel
theorem dX8_bestLamp_78 : decode cX8_bestLamp 78 = .ok (.istore_n 3, 1) := by decide +kernel
theorem dX8_bestLamp_79 : decode cX8_bestLamp 79 = .ok (.iinc 4 1, 3) := by decide +kernel
theorem dX8_bestLamp_82 : decode cX8_bestLamp 82 = .ok (.goto (-58), 3) := by decide +kernel
theorem dX8_bestLamp_85 : decode cX8_bestLamp 85 = .ok (.iload_n 2, 1) := by decide +kernel
theorem dX8_bestLamp_86 : decode cX8_bestLamp 86 = .ok (.ireturn, 1) := by decide +kernel
theorem dX8_isLitBehind_0 : decode cX8_isLitBehind 0 = .ok (.iconst 0, 1) := by decide +kernel
theorem dX8_isLitBehind_1 : decode cX8_isLitBehind 1 = .ok (.istore_n 2, 1) := by decide +kernel
theorem dX8_isLitBehind_2 : decode cX8_isLitBehind 2 = .ok (.iconst 0, 1) := by decide +kernel
theorem dX8_isLitBehind_3 : decode cX8_isLitBehind 3 = .ok (.istore_n 3, 1) := by decide +kernel
theorem dX8_isLitBehind_4 : decode cX8_isLitBehind 4 = .ok (.iload_n 3, 1) := by decide +kernel
theorem dX8_isLitBehind_5 : decode cX8_isLitBehind 5 = .ok (.bipush 64, 2) := by decide +kernel
theorem dX8_isLitBehind_7 : decode cX8_isLitBehind 7 = .ok (.if_icmp .ge 93, 3) := by decide +kernel
theorem dX8_isLitBehind_10 : decode cX8_isLitBehind 10 = .ok (.iconst 0, 1) := by decide +kernel
theorem dX8_isLitBehind_11 : decode cX8_isLitBehind 11 = .ok (.istore 4, 2) := by decide +kernel
theorem dX8_isLitBehind_13 : decode cX8_isLitBehind 13 = .ok (.iconst 0, 1) := by decide +kernel
theorem dX8_isLitBehind_14 : decode cX8_isLitBehind 14 = .ok (.istore 5, 2) := by decide +kernel
theorem dX8_isLitBehind_16 : decode cX8_isLitBehind 16 = .ok (.iload 5, 2) := by decide +kernel
theorem dX8_isLitBehind_18 : decode cX8_isLitBehind 18 = .ok (.aload_n 0, 1) := by decide +kernel
theorem dX8_isLitBehind_19 : decode cX8_isLitBehind 19 = .ok (.getfield 7, 3) := by decide +kernel
theorem dX8_isLitBehind_22 : decode cX8_isLitBehind 22 = .ok (.sipush 128, 3) := by decide +kernel
theorem dX8_isLitBehind_25 : decode cX8_isLitBehind 25 = .ok (.iaload, 1) := by decide +kernel
theorem dX8_isLitBehind_26 : decode cX8_isLitBehind 26 = .ok (.if_icmp .ge 45, 3) := by decide +kernel
theorem dX8_isLitBehind_29 : decode cX8_isLitBehind 29 = .ok (.iload 4, 2) := by decide +kernel
theorem dX8_isLitBehind_31 : decode cX8_isLitBehind 31 = .ok (.aload_n 0, 1) := by decide +kernel
theorem dX8_isLitBehind_32 : decode cX8_isLitBehind 32 = .ok (.getfield 7, 3) := by decide +kernel
theorem dX8_isLitBehind_35 : decode cX8_isLitBehind 35 = .ok (.sipush 141, 3) := by decide +kernel
theorem dX8_isLitBehind_38 : decode cX8_isLitBehind 38 = .ok (.iload 5, 2) := by decide +kernel
theorem dX8_isLitBehind_40 : decode cX8_isLitBehind 40 = .ok (.iadd, 1) := by decide +kernel
theorem dX8_isLitBehind_41 : decode cX8_isLitBehind 41 = .ok (.iaload, 1) := by decide +kernel
theorem dX8_isLitBehind_42 : decode cX8_isLitBehind 42 = .ok (.iload_n 1, 1) := by decide +kernel
theorem dX8_isLitBehind_43 : decode cX8_isLitBehind 43 = .ok (.if_icmp .le 18, 3) := by decide +kernel
theorem dX8_isLitBehind_46 : decode cX8_isLitBehind 46 = .ok (.aload_n 0, 1) := by decide +kernel
theorem dX8_isLitBehind_47 : decode cX8_isLitBehind 47 = .ok (.getfield 31, 3) := by decide +kernel
theorem dX8_isLitBehind_50 : decode cX8_isLitBehind 50 = .ok (.bipush 64, 2) := by decide +kernel
theorem dX8_isLitBehind_52 : decode cX8_isLitBehind 52 = .ok (.iload 5, 2) := by decide +kernel
theorem dX8_isLitBehind_54 : decode cX8_isLitBehind 54 = .ok (.imul, 1) := by decide +kernel
theorem dX8_isLitBehind_55 : decode cX8_isLitBehind 55 = .ok (.iload_n 3, 1) := by decide +kernel
theorem dX8_isLitBehind_56 : decode cX8_isLitBehind 56 = .ok (.iadd, 1) := by decide +kernel
theorem dX8_isLitBehind_57 : decode cX8_isLitBehind 57 = .ok (.iaload, 1) := by decide +kernel
theorem dX8_isLitBehind_58 : decode cX8_isLitBehind 58 = .ok (.goto 4, 3) := by decide +kernel
theorem dX8_isLitBehind_61 : decode cX8_isLitBehind 61 = .ok (.iconst 0, 1) := by decide +kernel
theorem dX8_isLitBehind_62 : decode cX8_isLitBehind 62 = .ok (.iadd, 1) := by decide +kernel
theorem dX8_isLitBehind_63 : decode cX8_isLitBehind 63 = .ok (.istore 4, 2) := by decide +kernel
theorem dX8_isLitBehind_65 : decode cX8_isLitBehind 65 = .ok (.iinc 5 1, 3) := by decide +kernel
theorem dX8_isLitBehind_68 : decode cX8_isLitBehind 68 = .ok (.goto (-52), 3) := by decide +kernel
theorem dX8_isLitBehind_71 : decode cX8_isLitBehind 71 = .ok (.iload_n 2, 1) := by decide +kernel
theorem dX8_isLitBehind_72 : decode cX8_isLitBehind 72 = .ok (.ifCond .ne 16, 3) := by decide +kernel
theorem dX8_isLitBehind_75 : decode cX8_isLitBehind 75 = .ok (.iload 4, 2) := by decide +kernel
theorem dX8_isLitBehind_77 : decode cX8_isLitBehind 77 = .ok (.aload_n 0, 1) := by decide +kernel
theorem dX8_isLitBehind_78 : decode cX8_isLitBehind 78 = .ok (.getfield 7, 3) := by decide +kernel
theorem dX8_isLitBehind_81 : decode cX8_isLitBehind 81 = .ok (.sipush 149, 3) := by decide +kernel
theorem dX8_isLitBehind_84 : decode cX8_isLitBehind 84 = .ok (.iaload, 1) := by decide +kernel
theorem dX8_isLitBehind_85 : decode cX8_isLitBehind 85 = .ok (.if_icmp .lt 7, 3) := by decide +kernel
theorem dX8_isLitBehind_88 : decode cX8_isLitBehind 88 = .ok (.iconst 1, 1) := by decide +kernel
theorem dX8_isLitBehind_89 : decode cX8_isLitBehind 89 = .ok (.goto 4, 3) := by decide +kernel
theorem dX8_isLitBehind_92 : decode cX8_isLitBehind 92 = .ok (.iconst 0, 1) := by decide +kernel
theorem dX8_isLitBehind_93 : decode cX8_isLitBehind 93 = .ok (.istore_n 2, 1) := by decide +kernel
theorem dX8_isLitBehind_94 : decode cX8_isLitBehind 94 = .ok (.iinc 3 1, 3) := by decide +kernel
theorem dX8_isLitBehind_97 : decode cX8_isLitBehind 97 = .ok (.goto (-93), 3) := by decide +kernel
theorem dX8_isLitBehind_100 : decode cX8_isLitBehind 100 = .ok (.iload_n 2, 1) := by decide +kernel
theorem dX8_isLitBehind_101 : decode cX8_isLitBehind 101 = .ok (.ireturn, 1) := by decide +kernel
set_option maxRecDepth 20000 in
theorem ggX8_darkIn_X8_given : GoodIn wsX8_darkIn wsX8_given := goodIn_r _ [7, 1, 8, 9, 10, 6, 11, 12, 13, 14, 15, 16, 17, 18, 19, 20, 21, 22, 23, 24, 25, 26, 27, 28, 29, 30, 31, 32, 33, 34, 35, 36, 37, 38, 39, 40, 41, 42, 43, 48, 49, 50, 51, 52, 53, 54, 55, 56, 57, 58] (by decide +kernel) (by decide +kernel)
set_option maxRecDepth 20000 in
theorem gX8_darkIn_X8_given : GoodIn wsX8_darkIn (wsV RX8 88 RX8 yX8_given wsX8_given) := goodIn_app (goodIn_of _ (by decide +kernel)) ggX8_darkIn_X8_given
set_option maxRecDepth 20000 in
theorem ggX8_darkIn_X8_isLitBehind : GoodIn wsX8_darkIn wsX8_isLitBehind := goodIn_r _ [47, 1, 2, 48, 49, 50, 51, 52, 53, 54, 55, 56, 57, 58] (by decide +kernel) (by decide +kernel)
set_option maxRecDepth 20000 in
theorem gX8_darkIn_X8_isLitBehind : GoodIn wsX8_darkIn (wsV RX8 223 RX8 yX8_isLitBehind wsX8_isLitBehind) := goodIn_app (goodIn_of _ (by decide +kernel)) ggX8_darkIn_X8_isLitBehind
theorem dX8_darkIn_0 : decode cX8_darkIn 0 = .ok (.iconst 0, 1) := by decide +kernel
theorem dX8_darkIn_1 : decode cX8_darkIn 1 = .ok (.istore_n 1, 1) := by decide +kernel
theorem dX8_darkIn_2 : decode cX8_darkIn 2 = .ok (.iload_n 1, 1) := by decide +kernel
theorem dX8_darkIn_3 : decode cX8_darkIn 3 = .ok (.bipush 64, 2) := by decide +kernel
theorem dX8_darkIn_5 : decode cX8_darkIn 5 = .ok (.aload_n 0, 1) := by decide +kernel
theorem dX8_darkIn_6 : decode cX8_darkIn 6 = .ok (.getfield 7, 3) := by decide +kernel
theorem dX8_darkIn_9 : decode cX8_darkIn 9 = .ok (.sipush 128, 3) := by decide +kernel
theorem dX8_darkIn_12 : decode cX8_darkIn 12 = .ok (.iaload, 1) := by decide +kernel
theorem dX8_darkIn_13 : decode cX8_darkIn 13 = .ok (.imul, 1) := by decide +kernel
theorem dX8_darkIn_14 : decode cX8_darkIn 14 = .ok (.if_icmp .ge 27, 3) := by decide +kernel
theorem dX8_darkIn_17 : decode cX8_darkIn 17 = .ok (.aload_n 0, 1) := by decide +kernel
theorem dX8_darkIn_18 : decode cX8_darkIn 18 = .ok (.getfield 31, 3) := by decide +kernel
theorem dX8_darkIn_21 : decode cX8_darkIn 21 = .ok (.iload_n 1, 1) := by decide +kernel
theorem dX8_darkIn_22 : decode cX8_darkIn 22 = .ok (.aload_n 0, 1) := by decide +kernel
theorem dX8_darkIn_23 : decode cX8_darkIn 23 = .ok (.iload_n 1, 1) := by decide +kernel
theorem dX8_darkIn_24 : decode cX8_darkIn 24 = .ok (.bipush 64, 2) := by decide +kernel
theorem dX8_darkIn_26 : decode cX8_darkIn 26 = .ok (.idiv, 1) := by decide +kernel
theorem dX8_darkIn_27 : decode cX8_darkIn 27 = .ok (.iload_n 1, 1) := by decide +kernel
theorem dX8_darkIn_28 : decode cX8_darkIn 28 = .ok (.bipush 64, 2) := by decide +kernel
theorem dX8_darkIn_30 : decode cX8_darkIn 30 = .ok (.irem, 1) := by decide +kernel
theorem dX8_darkIn_31 : decode cX8_darkIn 31 = .ok (.invokevirtual 88, 3) := by decide +kernel
theorem dX8_darkIn_34 : decode cX8_darkIn 34 = .ok (.iastore, 1) := by decide +kernel
theorem dX8_darkIn_35 : decode cX8_darkIn 35 = .ok (.iinc 1 1, 3) := by decide +kernel
theorem dX8_darkIn_38 : decode cX8_darkIn 38 = .ok (.goto (-36), 3) := by decide +kernel
theorem dX8_darkIn_41 : decode cX8_darkIn 41 = .ok (.iconst 0, 1) := by decide +kernel
theorem dX8_darkIn_42 : decode cX8_darkIn 42 = .ok (.istore_n 1, 1) := by decide +kernel
theorem dX8_darkIn_43 : decode cX8_darkIn 43 = .ok (.aload_n 0, 1) := by decide +kernel
theorem dX8_darkIn_44 : decode cX8_darkIn 44 = .ok (.iload_n 1, 1) := by decide +kernel
theorem dX8_darkIn_45 : decode cX8_darkIn 45 = .ok (.invokevirtual 223, 3) := by decide +kernel
theorem dX8_darkIn_48 : decode cX8_darkIn 48 = .ok (.ifCond .eq 9, 3) := by decide +kernel
theorem dX8_darkIn_51 : decode cX8_darkIn 51 = .ok (.iinc 1 1, 3) := by decide +kernel
theorem dX8_darkIn_54 : decode cX8_darkIn 54 = .ok (.goto (-11), 3) := by decide +kernel
theorem dX8_darkIn_57 : decode cX8_darkIn 57 = .ok (.iload_n 1, 1) := by decide +kernel
theorem dX8_darkIn_58 : decode cX8_darkIn 58 = .ok (.ireturn, 1) := by decide +kernel
theorem dJ13_bitCount_95d88_0 : decode cJ13_bitCount_95d88 0 = .ok (.lload_n 0, 1) := by decide +kernel
theorem dJ13_bitCount_95d88_1 : decode cJ13_bitCount_95d88 1 = .ok (.lload_n 0, 1) := by decide +kernel
theorem dJ13_bitCount_95d88_2 : decode cJ13_bitCount_95d88 2 = .ok (.iconst 1, 1) := by decide +kernel
theorem dJ13_bitCount_95d88_3 : decode cJ13_bitCount_95d88 3 = .ok (.lushr, 1) := by decide +kernel
theorem dJ13_bitCount_95d88_4 : decode cJ13_bitCount_95d88 4 = .ok (.ldc2_w 314, 3) := by decide +kernel
theorem dJ13_bitCount_95d88_7 : decode cJ13_bitCount_95d88 7 = .ok (.land, 1) := by decide +kernel
theorem dJ13_bitCount_95d88_8 : decode cJ13_bitCount_95d88 8 = .ok (.lsub, 1) := by decide +kernel
theorem dJ13_bitCount_95d88_9 : decode cJ13_bitCount_95d88 9 = .ok (.lstore_n 0, 1) := by decide +kernel
theorem dJ13_bitCount_95d88_10 : decode cJ13_bitCount_95d88 10 = .ok (.lload_n 0, 1) := by decide +kernel
theorem dJ13_bitCount_95d88_11 : decode cJ13_bitCount_95d88 11 = .ok (.ldc2_w 316, 3) := by decide +kernel
theorem dJ13_bitCount_95d88_14 : decode cJ13_bitCount_95d88 14 = .ok (.land, 1) := by decide +kernel
theorem dJ13_bitCount_95d88_15 : decode cJ13_bitCount_95d88 15 = .ok (.lload_n 0, 1) := by decide +kernel
theorem dJ13_bitCount_95d88_16 : decode cJ13_bitCount_95d88 16 = .ok (.iconst 2, 1) := by decide +kernel
theorem dJ13_bitCount_95d88_17 : decode cJ13_bitCount_95d88 17 = .ok (.lushr, 1) := by decide +kernel
theorem dJ13_bitCount_95d88_18 : decode cJ13_bitCount_95d88 18 = .ok (.ldc2_w 316, 3) := by decide +kernel
theorem dJ13_bitCount_95d88_21 : decode cJ13_bitCount_95d88 21 = .ok (.land, 1) := by decide +kernel
theorem dJ13_bitCount_95d88_22 : decode cJ13_bitCount_95d88 22 = .ok (.ladd, 1) := by decide +kernel
theorem dJ13_bitCount_95d88_23 : decode cJ13_bitCount_95d88 23 = .ok (.lstore_n 0, 1) := by decide +kernel
theorem dJ13_bitCount_95d88_24 : decode cJ13_bitCount_95d88 24 = .ok (.lload_n 0, 1) := by decide +kernel
theorem dJ13_bitCount_95d88_25 : decode cJ13_bitCount_95d88 25 = .ok (.lload_n 0, 1) := by decide +kernel
theorem dJ13_bitCount_95d88_26 : decode cJ13_bitCount_95d88 26 = .ok (.iconst 4, 1) := by decide +kernel
theorem dJ13_bitCount_95d88_27 : decode cJ13_bitCount_95d88 27 = .ok (.lushr, 1) := by decide +kernel
theorem dJ13_bitCount_95d88_28 : decode cJ13_bitCount_95d88 28 = .ok (.ladd, 1) := by decide +kernel
theorem dJ13_bitCount_95d88_29 : decode cJ13_bitCount_95d88 29 = .ok (.ldc2_w 318, 3) := by decide +kernel
theorem dJ13_bitCount_95d88_32 : decode cJ13_bitCount_95d88 32 = .ok (.land, 1) := by decide +kernel
theorem dJ13_bitCount_95d88_33 : decode cJ13_bitCount_95d88 33 = .ok (.lstore_n 0, 1) := by decide +kernel
theorem dJ13_bitCount_95d88_34 : decode cJ13_bitCount_95d88 34 = .ok (.lload_n 0, 1) := by decide +kernel
theorem dJ13_bitCount_95d88_35 : decode cJ13_bitCount_95d88 35 = .ok (.lload_n 0, 1) := by decide +kernel
theorem dJ13_bitCount_95d88_36 : decode cJ13_bitCount_95d88 36 = .ok (.bipush 8, 2) := by decide +kernel
theorem dJ13_bitCount_95d88_38 : decode cJ13_bitCount_95d88 38 = .ok (.lushr, 1) := by decide +kernel
theorem dJ13_bitCount_95d88_39 : decode cJ13_bitCount_95d88 39 = .ok (.ladd, 1) := by decide +kernel
theorem dJ13_bitCount_95d88_40 : decode cJ13_bitCount_95d88 40 = .ok (.lstore_n 0, 1) := by decide +kernel
theorem dJ13_bitCount_95d88_41 : decode cJ13_bitCount_95d88 41 = .ok (.lload_n 0, 1) := by decide +kernel
theorem dJ13_bitCount_95d88_42 : decode cJ13_bitCount_95d88 42 = .ok (.lload_n 0, 1) := by decide +kernel
theorem dJ13_bitCount_95d88_43 : decode cJ13_bitCount_95d88 43 = .ok (.bipush 16, 2) := by decide +kernel
theorem dJ13_bitCount_95d88_45 : decode cJ13_bitCount_95d88 45 = .ok (.lushr, 1) := by decide +kernel
theorem dJ13_bitCount_95d88_46 : decode cJ13_bitCount_95d88 46 = .ok (.ladd, 1) := by decide +kernel
theorem dJ13_bitCount_95d88_47 : decode cJ13_bitCount_95d88 47 = .ok (.lstore_n 0, 1) := by decide +kernel
theorem dJ13_bitCount_95d88_48 : decode cJ13_bitCount_95d88 48 = .ok (.lload_n 0, 1) := by decide +kernel
theorem dJ13_bitCount_95d88_49 : decode cJ13_bitCount_95d88 49 = .ok (.lload_n 0, 1) := by decide +kernel
theorem dJ13_bitCount_95d88_50 : decode cJ13_bitCount_95d88 50 = .ok (.bipush 32, 2) := by decide +kernel
theorem dJ13_bitCount_95d88_52 : decode cJ13_bitCount_95d88 52 = .ok (.lushr, 1) := by decide +kernel
theorem dJ13_bitCount_95d88_53 : decode cJ13_bitCount_95d88 53 = .ok (.ladd, 1) := by decide +kernel
theorem dJ13_bitCount_95d88_54 : decode cJ13_bitCount_95d88 54 = .ok (.lstore_n 0, 1) := by decide +kernel
theorem dJ13_bitCount_95d88_55 : decode cJ13_bitCount_95d88 55 = .ok (.lload_n 0, 1) := by decide +kernel
theorem dJ13_bitCount_95d88_56 : decode cJ13_bitCount_95d88 56 = .ok (.l2i, 1) := by decide +kernel
theorem dJ13_bitCount_95d88_57 : decode cJ13_bitCount_95d88 57 = .ok (.bipush 127, 2) := by decide +kernel
theorem dJ13_bitCount_95d88_59 : decode cJ13_bitCount_95d88 59 = .ok (.iand, 1) := by decide +kernel
theorem dJ13_bitCount_95d88_60 : decode cJ13_bitCount_95d88 60 = .ok (.ireturn, 1) := by decide +kernel
theorem dJ9_abs_0f7a4_0 : decode cJ9_abs_0f7a4 0 = .ok (.iload_n 0, 1) := by decide +kernel
theorem dJ9_abs_0f7a4_1 : decode cJ9_abs_0f7a4 1 = .ok (.ifCond .ge 8, 3) := by decide +kernel
theorem dJ9_abs_0f7a4_4 : decode cJ9_abs_0f7a4 4 = .ok (.iload_n 0, 1) := by decide +kernel
theorem dJ9_abs_0f7a4_5 : decode cJ9_abs_0f7a4 5 = .ok (.ineg, 1) := by decide +kernel
theorem dJ9_abs_0f7a4_6 : decode cJ9_abs_0f7a4 6 = .ok (.goto 4, 3) := by decide +kernel
theorem dJ9_abs_0f7a4_9 : decode cJ9_abs_0f7a4 9 = .ok (.iload_n 0, 1) := by decide +kernel
theorem dJ9_abs_0f7a4_10 : decode cJ9_abs_0f7a4 10 = .ok (.ireturn, 1) := by decide +kernel
