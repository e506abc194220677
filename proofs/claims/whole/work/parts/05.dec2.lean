theorem dX6_init_0 : decode cX6_init 0 = .ok (.aload_n 0, 1) := by decide +kernel
theorem dX6_init_1 : decode cX6_init 1 = .ok (.invokespecial 1, 3) := by decide +kernel
theorem dX6_init_4 : decode cX6_init 4 = .ok (.aload_n 0, 1) := by decide +kernel
theorem dX6_init_5 : decode cX6_init 5 = .ok (.new 7, 3) := by decide +kernel
theorem dX6_init_8 : decode cX6_init 8 = .ok (.dup, 1) := by decide +kernel
theorem dX6_init_9 : decode cX6_init 9 = .ok (.invokespecial 9, 3) := by decide +kernel
theorem dX6_init_12 : decode cX6_init 12 = .ok (.putfield 10, 3) := by decide +kernel
theorem dX6_init_15 : decode cX6_init 15 = .ok (.aload_n 0, 1) := by decide +kernel
theorem dX6_init_16 : decode cX6_init 16 = .ok (.new 7, 3) := by decide +kernel
theorem dX6_init_19 : decode cX6_init 19 = .ok (.dup, 1) := by decide +kernel
theorem dX6_init_20 : decode cX6_init 20 = .ok (.invokespecial 9, 3) := by decide +kernel
theorem dX6_init_23 : decode cX6_init 23 = .ok (.putfield 16, 3) := by decide +kernel
theorem dX6_init_26 : decode cX6_init 26 = .ok (.aload_n 0, 1) := by decide +kernel
theorem dX6_init_27 : decode cX6_init 27 = .ok (.new 7, 3) := by decide +kernel
theorem dX6_init_30 : decode cX6_init 30 = .ok (.dup, 1) := by decide +kernel
theorem dX6_init_31 : decode cX6_init 31 = .ok (.invokespecial 9, 3) := by decide +kernel
theorem dX6_init_34 : decode cX6_init 34 = .ok (.putfield 19, 3) := by decide +kernel
theorem dX6_init_37 : decode cX6_init 37 = .ok (.aload_n 0, 1) := by decide +kernel
theorem dX6_init_38 : decode cX6_init 38 = .ok (.new 22, 3) := by decide +kernel
theorem dX6_init_41 : decode cX6_init 41 = .ok (.dup, 1) := by decide +kernel
theorem dX6_init_42 : decode cX6_init 42 = .ok (.invokespecial 24, 3) := by decide +kernel
theorem dX6_init_45 : decode cX6_init 45 = .ok (.putfield 25, 3) := by decide +kernel
theorem dX6_init_48 : decode cX6_init 48 = .ok (.aload_n 0, 1) := by decide +kernel
theorem dX6_init_49 : decode cX6_init 49 = .ok (.new 29, 3) := by decide +kernel
theorem dX6_init_52 : decode cX6_init 52 = .ok (.dup, 1) := by decide +kernel
theorem dX6_init_53 : decode cX6_init 53 = .ok (.invokespecial 31, 3) := by decide +kernel
theorem dX6_init_56 : decode cX6_init 56 = .ok (.putfield 32, 3) := by decide +kernel
theorem dX6_init_59 : decode cX6_init 59 = .ok (.aload_n 0, 1) := by decide +kernel
theorem dX6_init_60 : decode cX6_init 60 = .ok (.new 36, 3) := by decide +kernel
theorem dX6_init_63 : decode cX6_init 63 = .ok (.dup, 1) := by decide +kernel
theorem dX6_init_64 : decode cX6_init 64 = .ok (.invokespecial 38, 3) := by decide +kernel
theorem dX6_init_67 : decode cX6_init 67 = .ok (.putfield 39, 3) := by decide +kernel
theorem dX6_init_70 : decode cX6_init 70 = .ok (.aload_n 0, 1) := by decide +kernel
theorem dX6_init_71 : decode cX6_init 71 = .ok (.new 43, 3) := by decide +kernel
theorem dX6_init_74 : decode cX6_init 74 = .ok (.dup, 1) := by decide +kernel
theorem dX6_init_75 : decode cX6_init 75 = .ok (.invokespecial 45, 3) := by decide +kernel
theorem dX6_init_78 : decode cX6_init 78 = .ok (.putfield 46, 3) := by decide +kernel
theorem dX6_init_81 : decode cX6_init 81 = .ok (.aload_n 0, 1) := by decide +kernel
theorem dX6_init_82 : decode cX6_init 82 = .ok (.new 50, 3) := by decide +kernel
theorem dX6_init_85 : decode cX6_init 85 = .ok (.dup, 1) := by decide +kernel
theorem dX6_init_86 : decode cX6_init 86 = .ok (.invokespecial 52, 3) := by decide +kernel
theorem dX6_init_89 : decode cX6_init 89 = .ok (.putfield 53, 3) := by decide +kernel
theorem dX6_init_92 : decode cX6_init 92 = .ok (.aload_n 0, 1) := by decide +kernel
theorem dX6_init_93 : decode cX6_init 93 = .ok (.bipush 10, 2) := by decide +kernel
theorem dX6_init_95 : decode cX6_init 95 = .ok (.newarray .int, 2) := by decide +kernel
theorem dX6_init_97 : decode cX6_init 97 = .ok (.putfield 57, 3) := by decide +kernel
theorem dX6_init_100 : decode cX6_init 100 = .ok (.aload_n 0, 1) := by decide +kernel
theorem dX6_init_101 : decode cX6_init 101 = .ok (.bipush 100, 2) := by decide +kernel
theorem dX6_init_103 : decode cX6_init 103 = .ok (.newarray .int, 2) := by decide +kernel
theorem dX6_init_105 : decode cX6_init 105 = .ok (.putfield 61, 3) := by decide +kernel
theorem dX6_init_108 : decode cX6_init 108 = .ok (.aload_n 0, 1) := by decide +kernel
theorem dX6_init_109 : decode cX6_init 109 = .ok (.iconst 0, 1) := by decide +kernel
theorem dX6_init_110 : decode cX6_init 110 = .ok (.putfield 64, 3) := by decide +kernel
theorem dX6_init_113 : decode cX6_init 113 = .ok (.aload_n 0, 1) := by decide +kernel
theorem dX6_init_114 : decode cX6_init 114 = .ok (.iconst 1, 1) := by decide +kernel
theorem dX6_init_115 : decode cX6_init 115 = .ok (.putfield 68, 3) := by decide +kernel
theorem dX6_init_118 : decode cX6_init 118 = .ok (.aload_n 0, 1) := by decide +kernel
theorem dX6_init_119 : decode cX6_init 119 = .ok (.iconst 1, 1) := by decide +kernel
theorem dX6_init_120 : decode cX6_init 120 = .ok (.putfield 72, 3) := by decide +kernel
theorem dX6_init_123 : decode cX6_init 123 = .ok (.return_, 1) := by decide +kernel
theorem dX6_feed_0 : decode cX6_feed 0 = .ok (.iload_n 3, 1) := by decide +kernel
theorem dX6_feed_1 : decode cX6_feed 1 = .ok (.iconst 1, 1) := by decide +kernel
theorem dX6_feed_2 : decode cX6_feed 2 = .ok (.bipush 8, 2) := by decide +kernel
theorem dX6_feed_4 : decode cX6_feed 4 = .ok (.invokestatic 75, 3) := by decide +kernel
theorem dX6_feed_7 : decode cX6_feed 7 = .ok (.ifCond .eq 5, 3) := by decide +kernel
theorem dX6_feed_10 : decode cX6_feed 10 = .ok (.iconst (-1), 1) := by decide +kernel
theorem dX6_feed_11 : decode cX6_feed 11 = .ok (.ireturn, 1) := by decide +kernel
theorem dX6_feed_12 : decode cX6_feed 12 = .ok (.aload_n 0, 1) := by decide +kernel
theorem dX6_feed_13 : decode cX6_feed 13 = .ok (.getfield 25, 3) := by decide +kernel
theorem dX6_feed_16 : decode cX6_feed 16 = .ok (.lload_n 1, 1) := by decide +kernel
theorem dX6_feed_17 : decode cX6_feed 17 = .ok (.iload_n 3, 1) := by decide +kernel
theorem dX6_feed_18 : decode cX6_feed 18 = .ok (.invokevirtual 79, 3) := by decide +kernel
theorem dX6_feed_21 : decode cX6_feed 21 = .ok (.ifCond .eq 13, 3) := by decide +kernel
theorem dX6_feed_24 : decode cX6_feed 24 = .ok (.aload_n 0, 1) := by decide +kernel
theorem dX6_feed_25 : decode cX6_feed 25 = .ok (.getfield 25, 3) := by decide +kernel
theorem dX6_feed_28 : decode cX6_feed 28 = .ok (.getfield 83, 3) := by decide +kernel
theorem dX6_feed_31 : decode cX6_feed 31 = .ok (.goto 5, 3) := by decide +kernel
theorem dX6_feed_34 : decode cX6_feed 34 = .ok (.bipush (-2), 2) := by decide +kernel
theorem dX6_feed_36 : decode cX6_feed 36 = .ok (.ireturn, 1) := by decide +kernel
theorem dX6_book_0 : decode cX6_book 0 = .ok (.aload_n 0, 1) := by decide +kernel
theorem dX6_book_1 : decode cX6_book 1 = .ok (.getfield 25, 3) := by decide +kernel
theorem dX6_book_4 : decode cX6_book 4 = .ok (.aload_n 0, 1) := by decide +kernel
theorem dX6_book_5 : decode cX6_book 5 = .ok (.getfield 19, 3) := by decide +kernel
theorem dX6_book_8 : decode cX6_book 8 = .ok (.invokevirtual 86, 3) := by decide +kernel
theorem dX6_book_11 : decode cX6_book 11 = .ok (.istore_n 1, 1) := by decide +kernel
theorem dX6_book_12 : decode cX6_book 12 = .ok (.aload_n 0, 1) := by decide +kernel
theorem dX6_book_13 : decode cX6_book 13 = .ok (.getfield 25, 3) := by decide +kernel
theorem dX6_book_16 : decode cX6_book 16 = .ok (.iconst 0, 1) := by decide +kernel
theorem dX6_book_17 : decode cX6_book 17 = .ok (.putfield 83, 3) := by decide +kernel
theorem dX6_book_20 : decode cX6_book 20 = .ok (.iload_n 1, 1) := by decide +kernel
theorem dX6_book_21 : decode cX6_book 21 = .ok (.ifCond .lt 8, 3) := by decide +kernel
theorem dX6_book_24 : decode cX6_book 24 = .ok (.bipush (-100), 2) := by decide +kernel
theorem dX6_book_26 : decode cX6_book 26 = .ok (.iload_n 1, 1) := by decide +kernel
theorem dX6_book_27 : decode cX6_book 27 = .ok (.isub, 1) := by decide +kernel
theorem dX6_book_28 : decode cX6_book 28 = .ok (.ireturn, 1) := by decide +kernel
theorem dX6_book_29 : decode cX6_book 29 = .ok (.aload_n 0, 1) := by decide +kernel
theorem dX6_book_30 : decode cX6_book 30 = .ok (.getfield 10, 3) := by decide +kernel
theorem dX6_book_33 : decode cX6_book 33 = .ok (.aload_n 0, 1) := by decide +kernel
theorem dX6_book_34 : decode cX6_book 34 = .ok (.getfield 19, 3) := by decide +kernel
theorem dX6_book_37 : decode cX6_book 37 = .ok (.invokevirtual 90, 3) := by decide +kernel
theorem dX6_book_40 : decode cX6_book 40 = .ok (.aload_n 0, 1) := by decide +kernel
theorem dX6_book_41 : decode cX6_book 41 = .ok (.getfield 32, 3) := by decide +kernel
theorem dX6_book_44 : decode cX6_book 44 = .ok (.iconst 0, 1) := by decide +kernel
theorem dX6_book_45 : decode cX6_book 45 = .ok (.putfield 94, 3) := by decide +kernel
theorem dX6_book_48 : decode cX6_book 48 = .ok (.aload_n 0, 1) := by decide +kernel
theorem dX6_book_49 : decode cX6_book 49 = .ok (.getfield 10, 3) := by decide +kernel
theorem dX6_book_52 : decode cX6_book 52 = .ok (.invokevirtual 95, 3) := by decide +kernel
theorem dX6_book_55 : decode cX6_book 55 = .ok (.ireturn, 1) := by decide +kernel
theorem dX6_year_0 : decode cX6_year 0 = .ok (.iload_n 1, 1) := by decide +kernel
theorem dX6_year_1 : decode cX6_year 1 = .ok (.iconst 0, 1) := by decide +kernel
theorem dX6_year_2 : decode cX6_year 2 = .ok (.bipush 23, 2) := by decide +kernel
theorem dX6_year_4 : decode cX6_year 4 = .ok (.invokestatic 75, 3) := by decide +kernel
theorem dX6_year_7 : decode cX6_year 7 = .ok (.ifCond .ne 13, 3) := by decide +kernel
theorem dX6_year_10 : decode cX6_year 10 = .ok (.iload_n 2, 1) := by decide +kernel
theorem dX6_year_11 : decode cX6_year 11 = .ok (.iconst (-1), 1) := by decide +kernel
theorem dX6_year_12 : decode cX6_year 12 = .ok (.bipush 9, 2) := by decide +kernel
theorem dX6_year_14 : decode cX6_year 14 = .ok (.invokestatic 75, 3) := by decide +kernel
theorem dX6_year_17 : decode cX6_year 17 = .ok (.ifCond .eq 5, 3) := by decide +kernel
theorem dX6_year_20 : decode cX6_year 20 = .ok (.iconst (-1), 1) := by decide +kernel
theorem dX6_year_21 : decode cX6_year 21 = .ok (.ireturn, 1) := by decide +kernel
theorem dX6_year_22 : decode cX6_year 22 = .ok (.aload_n 0, 1) := by decide +kernel
theorem dX6_year_23 : decode cX6_year 23 = .ok (.getfield 10, 3) := by decide +kernel
theorem dX6_year_26 : decode cX6_year 26 = .ok (.getfield 99, 3) := by decide +kernel
theorem dX6_year_29 : decode cX6_year 29 = .ok (.iload_n 1, 1) := by decide +kernel
theorem dX6_year_30 : decode cX6_year 30 = .ok (.iaload, 1) := by decide +kernel
theorem dX6_year_31 : decode cX6_year 31 = .ok (.istore_n 3, 1) := by decide +kernel
theorem dX6_year_32 : decode cX6_year 32 = .ok (.aload_n 0, 1) := by decide +kernel
theorem dX6_year_33 : decode cX6_year 33 = .ok (.getfield 10, 3) := by decide +kernel
theorem dX6_year_36 : decode cX6_year 36 = .ok (.getfield 99, 3) := by decide +kernel
theorem dX6_year_39 : decode cX6_year 39 = .ok (.iload_n 1, 1) := by decide +kernel
theorem dX6_year_40 : decode cX6_year 40 = .ok (.iload_n 2, 1) := by decide +kernel
theorem dX6_year_41 : decode cX6_year 41 = .ok (.ifCond .ge 8, 3) := by decide +kernel
theorem dX6_year_44 : decode cX6_year 44 = .ok (.bipush (-9), 2) := by decide +kernel
theorem dX6_year_46 : decode cX6_year 46 = .ok (.goto 4, 3) := by decide +kernel
theorem dX6_year_49 : decode cX6_year 49 = .ok (.iload_n 2, 1) := by decide +kernel
theorem dX6_year_50 : decode cX6_year 50 = .ok (.iastore, 1) := by decide +kernel
theorem dX6_year_51 : decode cX6_year 51 = .ok (.iload_n 3, 1) := by decide +kernel
theorem dX6_year_52 : decode cX6_year 52 = .ok (.ireturn, 1) := by decide +kernel
theorem dX6_mark_0 : decode cX6_mark 0 = .ok (.iload_n 1, 1) := by decide +kernel
theorem dX6_mark_1 : decode cX6_mark 1 = .ok (.iconst 0, 1) := by decide +kernel
theorem dX6_mark_2 : decode cX6_mark 2 = .ok (.bipush 23, 2) := by decide +kernel
theorem dX6_mark_4 : decode cX6_mark 4 = .ok (.invokestatic 75, 3) := by decide +kernel
theorem dX6_mark_7 : decode cX6_mark 7 = .ok (.ifCond .ne 13, 3) := by decide +kernel
theorem dX6_mark_10 : decode cX6_mark 10 = .ok (.iload_n 2, 1) := by decide +kernel
theorem dX6_mark_11 : decode cX6_mark 11 = .ok (.iconst 0, 1) := by decide +kernel
theorem dX6_mark_12 : decode cX6_mark 12 = .ok (.bipush 9, 2) := by decide +kernel
theorem dX6_mark_14 : decode cX6_mark 14 = .ok (.invokestatic 75, 3) := by decide +kernel
theorem dX6_mark_17 : decode cX6_mark 17 = .ok (.ifCond .eq 5, 3) := by decide +kernel
theorem dX6_mark_20 : decode cX6_mark 20 = .ok (.iconst (-1), 1) := by decide +kernel
theorem dX6_mark_21 : decode cX6_mark 21 = .ok (.ireturn, 1) := by decide +kernel
theorem dX6_mark_22 : decode cX6_mark 22 = .ok (.aload_n 0, 1) := by decide +kernel
theorem dX6_mark_23 : decode cX6_mark 23 = .ok (.getfield 10, 3) := by decide +kernel
theorem dX6_mark_26 : decode cX6_mark 26 = .ok (.getfield 102, 3) := by decide +kernel
theorem dX6_mark_29 : decode cX6_mark 29 = .ok (.iload_n 1, 1) := by decide +kernel
theorem dX6_mark_30 : decode cX6_mark 30 = .ok (.iaload, 1) := by decide +kernel
theorem dX6_mark_31 : decode cX6_mark 31 = .ok (.istore_n 3, 1) := by decide +kernel
theorem dX6_mark_32 : decode cX6_mark 32 = .ok (.aload_n 0, 1) := by decide +kernel
theorem dX6_mark_33 : decode cX6_mark 33 = .ok (.getfield 10, 3) := by decide +kernel
theorem dX6_mark_36 : decode cX6_mark 36 = .ok (.getfield 102, 3) := by decide +kernel
theorem dX6_mark_39 : decode cX6_mark 39 = .ok (.iload_n 1, 1) := by decide +kernel
theorem dX6_mark_40 : decode cX6_mark 40 = .ok (.iload_n 2, 1) := by decide +kernel
theorem dX6_mark_41 : decode cX6_mark 41 = .ok (.iastore, 1) := by decide +kernel
theorem dX6_mark_42 : decode cX6_mark 42 = .ok (.iload_n 3, 1) := by decide +kernel
theorem dX6_mark_43 : decode cX6_mark 43 = .ok (.ireturn, 1) := by decide +kernel
theorem dX6_yearOf_0 : decode cX6_yearOf 0 = .ok (.iload_n 1, 1) := by decide +kernel
theorem dX6_yearOf_1 : decode cX6_yearOf 1 = .ok (.iconst 0, 1) := by decide +kernel
theorem dX6_yearOf_2 : decode cX6_yearOf 2 = .ok (.bipush 23, 2) := by decide +kernel
theorem dX6_yearOf_4 : decode cX6_yearOf 4 = .ok (.invokestatic 75, 3) := by decide +kernel
theorem dX6_yearOf_7 : decode cX6_yearOf 7 = .ok (.ifCond .ne 12, 3) := by decide +kernel
theorem dX6_yearOf_10 : decode cX6_yearOf 10 = .ok (.iload_n 2, 1) := by decide +kernel
theorem dX6_yearOf_11 : decode cX6_yearOf 11 = .ok (.iconst 0, 1) := by decide +kernel
theorem dX6_yearOf_12 : decode cX6_yearOf 12 = .ok (.iconst 1, 1) := by decide +kernel
theorem dX6_yearOf_13 : decode cX6_yearOf 13 = .ok (.invokestatic 75, 3) := by decide +kernel
theorem dX6_yearOf_16 : decode cX6_yearOf 16 = .ok (.ifCond .eq 5, 3) := by decide +kernel
theorem dX6_yearOf_19 : decode cX6_yearOf 19 = .ok (.iconst (-1), 1) := by decide +kernel
theorem dX6_yearOf_20 : decode cX6_yearOf 20 = .ok (.ireturn, 1) := by decide +kernel
theorem dX6_yearOf_21 : decode cX6_yearOf 21 = .ok (.iload_n 2, 1) := by decide +kernel
theorem dX6_yearOf_22 : decode cX6_yearOf 22 = .ok (.ifCond .ne 15, 3) := by decide +kernel
theorem dX6_yearOf_25 : decode cX6_yearOf 25 = .ok (.aload_n 0, 1) := by decide +kernel
theorem dX6_yearOf_26 : decode cX6_yearOf 26 = .ok (.getfield 10, 3) := by decide +kernel
theorem dX6_yearOf_29 : decode cX6_yearOf 29 = .ok (.getfield 99, 3) := by decide +kernel
theorem dX6_yearOf_32 : decode cX6_yearOf 32 = .ok (.iload_n 1, 1) := by decide +kernel
theorem dX6_yearOf_33 : decode cX6_yearOf 33 = .ok (.iaload, 1) := by decide +kernel
theorem dX6_yearOf_34 : decode cX6_yearOf 34 = .ok (.goto 12, 3) := by decide +kernel
theorem dX6_yearOf_37 : decode cX6_yearOf 37 = .ok (.aload_n 0, 1) := by decide +kernel
theorem dX6_yearOf_38 : decode cX6_yearOf 38 = .ok (.getfield 10, 3) := by decide +kernel
theorem dX6_yearOf_41 : decode cX6_yearOf 41 = .ok (.getfield 102, 3) := by decide +kernel
theorem dX6_yearOf_44 : decode cX6_yearOf 44 = .ok (.iload_n 1, 1) := by decide +kernel
theorem dX6_yearOf_45 : decode cX6_yearOf 45 = .ok (.iaload, 1) := by decide +kernel
theorem dX6_yearOf_46 : decode cX6_yearOf 46 = .ok (.ireturn, 1) := by decide +kernel
theorem dX6_villages_0 : decode cX6_villages 0 = .ok (.iload_n 1, 1) := by decide +kernel
theorem dX6_villages_1 : decode cX6_villages 1 = .ok (.iconst 2, 1) := by decide +kernel
theorem dX6_villages_2 : decode cX6_villages 2 = .ok (.bipush 10, 2) := by decide +kernel
theorem dX6_villages_4 : decode cX6_villages 4 = .ok (.invokestatic 75, 3) := by decide +kernel
theorem dX6_villages_7 : decode cX6_villages 7 = .ok (.ifCond .eq 5, 3) := by decide +kernel
theorem dX6_villages_10 : decode cX6_villages 10 = .ok (.iconst (-1), 1) := by decide +kernel
theorem dX6_villages_11 : decode cX6_villages 11 = .ok (.ireturn, 1) := by decide +kernel
theorem dX6_villages_12 : decode cX6_villages 12 = .ok (.aload_n 0, 1) := by decide +kernel
theorem dX6_villages_13 : decode cX6_villages 13 = .ok (.getfield 10, 3) := by decide +kernel
theorem dX6_villages_16 : decode cX6_villages 16 = .ok (.getfield 105, 3) := by decide +kernel
theorem dX6_villages_19 : decode cX6_villages 19 = .ok (.istore_n 2, 1) := by decide +kernel
theorem dX6_villages_20 : decode cX6_villages 20 = .ok (.aload_n 0, 1) := by decide +kernel
theorem dX6_villages_21 : decode cX6_villages 21 = .ok (.getfield 10, 3) := by decide +kernel
theorem dX6_villages_24 : decode cX6_villages 24 = .ok (.iload_n 1, 1) := by decide +kernel
theorem dX6_villages_25 : decode cX6_villages 25 = .ok (.putfield 105, 3) := by decide +kernel
theorem dX6_villages_28 : decode cX6_villages 28 = .ok (.iload_n 2, 1) := by decide +kernel
theorem dX6_villages_29 : decode cX6_villages 29 = .ok (.ireturn, 1) := by decide +kernel
theorem dX6_hold_0 : decode cX6_hold 0 = .ok (.iload_n 1, 1) := by decide +kernel
theorem dX6_hold_1 : decode cX6_hold 1 = .ok (.iconst 0, 1) := by decide +kernel
theorem dX6_hold_2 : decode cX6_hold 2 = .ok (.iconst 5, 1) := by decide +kernel
theorem dX6_hold_3 : decode cX6_hold 3 = .ok (.invokestatic 75, 3) := by decide +kernel
theorem dX6_hold_6 : decode cX6_hold 6 = .ok (.ifCond .ne 31, 3) := by decide +kernel
theorem dX6_hold_9 : decode cX6_hold 9 = .ok (.iload_n 2, 1) := by decide +kernel
theorem dX6_hold_10 : decode cX6_hold 10 = .ok (.iconst 0, 1) := by decide +kernel
theorem dX6_hold_11 : decode cX6_hold 11 = .ok (.iconst 4, 1) := by decide +kernel
theorem dX6_hold_12 : decode cX6_hold 12 = .ok (.invokestatic 75, 3) := by decide +kernel
theorem dX6_hold_15 : decode cX6_hold 15 = .ok (.ifCond .ne 22, 3) := by decide +kernel
theorem dX6_hold_18 : decode cX6_hold 18 = .ok (.iload_n 3, 1) := by decide +kernel
theorem dX6_hold_19 : decode cX6_hold 19 = .ok (.iconst 0, 1) := by decide +kernel
theorem dX6_hold_20 : decode cX6_hold 20 = .ok (.iconst 4, 1) := by decide +kernel
theorem dX6_hold_21 : decode cX6_hold 21 = .ok (.invokestatic 75, 3) := by decide +kernel
theorem dX6_hold_24 : decode cX6_hold 24 = .ok (.ifCond .ne 13, 3) := by decide +kernel
theorem dX6_hold_27 : decode cX6_hold 27 = .ok (.iload 4, 2) := by decide +kernel
theorem dX6_hold_29 : decode cX6_hold 29 = .ok (.iconst 1, 1) := by decide +kernel
theorem dX6_hold_30 : decode cX6_hold 30 = .ok (.iconst 4, 1) := by decide +kernel
theorem dX6_hold_31 : decode cX6_hold 31 = .ok (.invokestatic 75, 3) := by decide +kernel
theorem dX6_hold_34 : decode cX6_hold 34 = .ok (.ifCond .eq 5, 3) := by decide +kernel
theorem dX6_hold_37 : decode cX6_hold 37 = .ok (.iconst (-1), 1) := by decide +kernel
theorem dX6_hold_38 : decode cX6_hold 38 = .ok (.ireturn, 1) := by decide +kernel
theorem dX6_hold_39 : decode cX6_hold 39 = .ok (.aload_n 0, 1) := by decide +kernel
theorem dX6_hold_40 : decode cX6_hold 40 = .ok (.getfield 10, 3) := by decide +kernel
theorem dX6_hold_43 : decode cX6_hold 43 = .ok (.getfield 108, 3) := by decide +kernel
theorem dX6_hold_46 : decode cX6_hold 46 = .ok (.bipush 6, 2) := by decide +kernel
theorem dX6_hold_48 : decode cX6_hold 48 = .ok (.if_icmp .lt 6, 3) := by decide +kernel
theorem dX6_hold_51 : decode cX6_hold 51 = .ok (.bipush (-2), 2) := by decide +kernel
theorem dX6_hold_53 : decode cX6_hold 53 = .ok (.ireturn, 1) := by decide +kernel
theorem dX6_hold_54 : decode cX6_hold 54 = .ok (.aload_n 0, 1) := by decide +kernel
theorem dX6_hold_55 : decode cX6_hold 55 = .ok (.getfield 10, 3) := by decide +kernel
theorem dX6_hold_58 : decode cX6_hold 58 = .ok (.iload_n 1, 1) := by decide +kernel
theorem dX6_hold_59 : decode cX6_hold 59 = .ok (.iload_n 2, 1) := by decide +kernel
theorem dX6_hold_60 : decode cX6_hold 60 = .ok (.iload_n 3, 1) := by decide +kernel
theorem dX6_hold_61 : decode cX6_hold 61 = .ok (.iload 4, 2) := by decide +kernel
theorem dX6_hold_63 : decode cX6_hold 63 = .ok (.invokestatic 111, 3) := by decide +kernel
theorem dX6_hold_66 : decode cX6_hold 66 = .ok (.invokevirtual 115, 3) := by decide +kernel
theorem dX6_hold_69 : decode cX6_hold 69 = .ok (.aload_n 0, 1) := by decide +kernel
theorem dX6_hold_70 : decode cX6_hold 70 = .ok (.getfield 10, 3) := by decide +kernel
theorem dX6_hold_73 : decode cX6_hold 73 = .ok (.getfield 108, 3) := by decide +kernel
theorem dX6_hold_76 : decode cX6_hold 76 = .ok (.iconst 1, 1) := by decide +kernel
theorem dX6_hold_77 : decode cX6_hold 77 = .ok (.isub, 1) := by decide +kernel
theorem dX6_hold_78 : decode cX6_hold 78 = .ok (.ireturn, 1) := by decide +kernel
theorem dX6_ruleOf_0 : decode cX6_ruleOf 0 = .ok (.aload_n 0, 1) := by decide +kernel
theorem dX6_ruleOf_1 : decode cX6_ruleOf 1 = .ok (.getfield 10, 3) := by decide +kernel
theorem dX6_ruleOf_4 : decode cX6_ruleOf 4 = .ok (.iload_n 1, 1) := by decide +kernel
theorem dX6_ruleOf_5 : decode cX6_ruleOf 5 = .ok (.invokevirtual 119, 3) := by decide +kernel
theorem dX6_ruleOf_8 : decode cX6_ruleOf 8 = .ok (.ifCond .eq 12, 3) := by decide +kernel
theorem dX6_ruleOf_11 : decode cX6_ruleOf 11 = .ok (.iload_n 2, 1) := by decide +kernel
theorem dX6_ruleOf_12 : decode cX6_ruleOf 12 = .ok (.iconst 0, 1) := by decide +kernel
theorem dX6_ruleOf_13 : decode cX6_ruleOf 13 = .ok (.iconst 5, 1) := by decide +kernel
theorem dX6_ruleOf_14 : decode cX6_ruleOf 14 = .ok (.invokestatic 75, 3) := by decide +kernel
theorem dX6_ruleOf_17 : decode cX6_ruleOf 17 = .ok (.ifCond .eq 5, 3) := by decide +kernel
theorem dX6_ruleOf_20 : decode cX6_ruleOf 20 = .ok (.iconst (-1), 1) := by decide +kernel
theorem dX6_ruleOf_21 : decode cX6_ruleOf 21 = .ok (.ireturn, 1) := by decide +kernel
theorem dX6_ruleOf_22 : decode cX6_ruleOf 22 = .ok (.aload_n 0, 1) := by decide +kernel
theorem dX6_ruleOf_23 : decode cX6_ruleOf 23 = .ok (.aload_n 0, 1) := by decide +kernel
theorem dX6_ruleOf_24 : decode cX6_ruleOf 24 = .ok (.getfield 10, 3) := by decide +kernel
theorem dX6_ruleOf_27 : decode cX6_ruleOf 27 = .ok (.getfield 123, 3) := by decide +kernel
theorem dX6_ruleOf_30 : decode cX6_ruleOf 30 = .ok (.iload_n 1, 1) := by decide +kernel
theorem dX6_ruleOf_31 : decode cX6_ruleOf 31 = .ok (.iaload, 1) := by decide +kernel
theorem dX6_ruleOf_32 : decode cX6_ruleOf 32 = .ok (.iload_n 2, 1) := by decide +kernel
theorem dX6_ruleOf_33 : decode cX6_ruleOf 33 = .ok (.invokevirtual 126, 3) := by decide +kernel
theorem dX6_ruleOf_36 : decode cX6_ruleOf 36 = .ok (.ireturn, 1) := by decide +kernel
theorem dX6_drop_0 : decode cX6_drop 0 = .ok (.aload_n 0, 1) := by decide +kernel
theorem dX6_drop_1 : decode cX6_drop 1 = .ok (.getfield 10, 3) := by decide +kernel
theorem dX6_drop_4 : decode cX6_drop 4 = .ok (.iload_n 1, 1) := by decide +kernel
theorem dX6_drop_5 : decode cX6_drop 5 = .ok (.invokevirtual 119, 3) := by decide +kernel
theorem dX6_drop_8 : decode cX6_drop 8 = .ok (.ifCond .ne 5, 3) := by decide +kernel
theorem dX6_drop_11 : decode cX6_drop 11 = .ok (.iconst (-1), 1) := by decide +kernel
theorem dX6_drop_12 : decode cX6_drop 12 = .ok (.ireturn, 1) := by decide +kernel
theorem dX6_drop_13 : decode cX6_drop 13 = .ok (.aload_n 0, 1) := by decide +kernel
theorem dX6_drop_14 : decode cX6_drop 14 = .ok (.getfield 10, 3) := by decide +kernel
theorem dX6_drop_17 : decode cX6_drop 17 = .ok (.iload_n 1, 1) := by decide +kernel
theorem dX6_drop_18 : decode cX6_drop 18 = .ok (.invokevirtual 130, 3) := by decide +kernel
theorem dX6_drop_21 : decode cX6_drop 21 = .ok (.aload_n 0, 1) := by decide +kernel
theorem dX6_drop_22 : decode cX6_drop 22 = .ok (.getfield 10, 3) := by decide +kernel
theorem dX6_drop_25 : decode cX6_drop 25 = .ok (.getfield 108, 3) := by decide +kernel
theorem dX6_drop_28 : decode cX6_drop 28 = .ok (.ireturn, 1) := by decide +kernel
theorem dX6_says_0 : decode cX6_says 0 = .ok (.aload_n 0, 1) := by decide +kernel
theorem dX6_says_1 : decode cX6_says 1 = .ok (.getfield 10, 3) := by decide +kernel
theorem dX6_says_4 : decode cX6_says 4 = .ok (.iload_n 1, 1) := by decide +kernel
theorem dX6_says_5 : decode cX6_says 5 = .ok (.invokevirtual 119, 3) := by decide +kernel
theorem dX6_says_8 : decode cX6_says 8 = .ok (.ifCond .eq 13, 3) := by decide +kernel
theorem dX6_says_11 : decode cX6_says 11 = .ok (.iload_n 2, 1) := by decide +kernel
theorem dX6_says_12 : decode cX6_says 12 = .ok (.iconst 0, 1) := by decide +kernel
theorem dX6_says_13 : decode cX6_says 13 = .ok (.bipush 99, 2) := by decide +kernel
theorem dX6_says_15 : decode cX6_says 15 = .ok (.invokestatic 75, 3) := by decide +kernel
theorem dX6_says_18 : decode cX6_says 18 = .ok (.ifCond .eq 5, 3) := by decide +kernel
theorem dX6_says_21 : decode cX6_says 21 = .ok (.iconst (-1), 1) := by decide +kernel
theorem dX6_says_22 : decode cX6_says 22 = .ok (.ireturn, 1) := by decide +kernel
theorem dX6_says_23 : decode cX6_says 23 = .ok (.aload_n 0, 1) := by decide +kernel
theorem dX6_says_24 : decode cX6_says 24 = .ok (.getfield 10, 3) := by decide +kernel
theorem dX6_says_27 : decode cX6_says 27 = .ok (.aload_n 0, 1) := by decide +kernel
theorem dX6_says_28 : decode cX6_says 28 = .ok (.getfield 10, 3) := by decide +kernel
theorem dX6_says_31 : decode cX6_says 31 = .ok (.getfield 123, 3) := by decide +kernel
theorem dX6_says_34 : decode cX6_says 34 = .ok (.iload_n 1, 1) := by decide +kernel
theorem dX6_says_35 : decode cX6_says 35 = .ok (.iaload, 1) := by decide +kernel
theorem dX6_says_36 : decode cX6_says 36 = .ok (.iload_n 2, 1) := by decide +kernel
theorem dX6_says_37 : decode cX6_says 37 = .ok (.aload_n 0, 1) := by decide +kernel
theorem dX6_says_38 : decode cX6_says 38 = .ok (.getfield 10, 3) := by decide +kernel
theorem dX6_says_41 : decode cX6_says 41 = .ok (.getfield 99, 3) := by decide +kernel
theorem dX6_says_44 : decode cX6_says 44 = .ok (.invokevirtual 133, 3) := by decide +kernel
theorem dX6_says_47 : decode cX6_says 47 = .ok (.ireturn, 1) := by decide +kernel
theorem dX6_run_0 : decode cX6_run 0 = .ok (.aload_n 0, 1) := by decide +kernel
theorem dX6_run_1 : decode cX6_run 1 = .ok (.getfield 10, 3) := by decide +kernel
theorem dX6_run_4 : decode cX6_run 4 = .ok (.iload_n 1, 1) := by decide +kernel
theorem dX6_run_5 : decode cX6_run 5 = .ok (.invokevirtual 119, 3) := by decide +kernel
theorem dX6_run_8 : decode cX6_run 8 = .ok (.ifCond .ne 5, 3) := by decide +kernel
theorem dX6_run_11 : decode cX6_run 11 = .ok (.iconst (-1), 1) := by decide +kernel
theorem dX6_run_12 : decode cX6_run 12 = .ok (.ireturn, 1) := by decide +kernel
theorem dX6_run_13 : decode cX6_run 13 = .ok (.aload_n 0, 1) := by decide +kernel
theorem dX6_run_14 : decode cX6_run 14 = .ok (.getfield 10, 3) := by decide +kernel
theorem dX6_run_17 : decode cX6_run 17 = .ok (.aload_n 0, 1) := by decide +kernel
theorem dX6_run_18 : decode cX6_run 18 = .ok (.getfield 10, 3) := by decide +kernel
theorem dX6_run_21 : decode cX6_run 21 = .ok (.getfield 123, 3) := by decide +kernel
theorem dX6_run_24 : decode cX6_run 24 = .ok (.iload_n 1, 1) := by decide +kernel
theorem dX6_run_25 : decode cX6_run 25 = .ok (.iaload, 1) := by decide +kernel
theorem dX6_run_26 : decode cX6_run 26 = .ok (.invokevirtual 137, 3) := by decide +kernel
theorem dX6_run_29 : decode cX6_run 29 = .ok (.ireturn, 1) := by decide +kernel
theorem dX6_believed_0 : decode cX6_believed 0 = .ok (.aload_n 0, 1) := by decide +kernel
theorem dX6_believed_1 : decode cX6_believed 1 = .ok (.getfield 10, 3) := by decide +kernel
theorem dX6_believed_4 : decode cX6_believed 4 = .ok (.iload_n 1, 1) := by decide +kernel
theorem dX6_believed_5 : decode cX6_believed 5 = .ok (.invokevirtual 119, 3) := by decide +kernel
theorem dX6_believed_8 : decode cX6_believed 8 = .ok (.ifCond .eq 13, 3) := by decide +kernel
theorem dX6_believed_11 : decode cX6_believed 11 = .ok (.iload_n 2, 1) := by decide +kernel
theorem dX6_believed_12 : decode cX6_believed 12 = .ok (.iconst 1, 1) := by decide +kernel
theorem dX6_believed_13 : decode cX6_believed 13 = .ok (.bipush 9, 2) := by decide +kernel
theorem dX6_believed_15 : decode cX6_believed 15 = .ok (.invokestatic 75, 3) := by decide +kernel
theorem dX6_believed_18 : decode cX6_believed 18 = .ok (.ifCond .eq 5, 3) := by decide +kernel
theorem dX6_believed_21 : decode cX6_believed 21 = .ok (.iconst (-1), 1) := by decide +kernel
theorem dX6_believed_22 : decode cX6_believed 22 = .ok (.ireturn, 1) := by decide +kernel
theorem dX6_believed_23 : decode cX6_believed 23 = .ok (.aload_n 0, 1) := by decide +kernel
theorem dX6_believed_24 : decode cX6_believed 24 = .ok (.getfield 10, 3) := by decide +kernel
theorem dX6_believed_27 : decode cX6_believed 27 = .ok (.aload_n 0, 1) := by decide +kernel
theorem dX6_believed_28 : decode cX6_believed 28 = .ok (.getfield 10, 3) := by decide +kernel
theorem dX6_believed_31 : decode cX6_believed 31 = .ok (.getfield 123, 3) := by decide +kernel
theorem dX6_believed_34 : decode cX6_believed 34 = .ok (.iload_n 1, 1) := by decide +kernel
theorem dX6_believed_35 : decode cX6_believed 35 = .ok (.iaload, 1) := by decide +kernel
theorem dX6_believed_36 : decode cX6_believed 36 = .ok (.iload_n 2, 1) := by decide +kernel
theorem dX6_believed_37 : decode cX6_believed 37 = .ok (.invokevirtual 141, 3) := by decide +kernel
theorem dX6_believed_40 : decode cX6_believed 40 = .ok (.ireturn, 1) := by decide +kernel
theorem dX6_on_0 : decode cX6_on 0 = .ok (.aload_n 0, 1) := by decide +kernel
theorem dX6_on_1 : decode cX6_on 1 = .ok (.getfield 10, 3) := by decide +kernel
theorem dX6_on_4 : decode cX6_on 4 = .ok (.iload_n 1, 1) := by decide +kernel
theorem dX6_on_5 : decode cX6_on 5 = .ok (.invokevirtual 119, 3) := by decide +kernel
theorem dX6_on_8 : decode cX6_on 8 = .ok (.ifCond .eq 19, 3) := by decide +kernel
theorem dX6_on_11 : decode cX6_on 11 = .ok (.iload_n 2, 1) := by decide +kernel
theorem dX6_on_12 : decode cX6_on 12 = .ok (.aload_n 0, 1) := by decide +kernel
theorem dX6_on_13 : decode cX6_on 13 = .ok (.getfield 10, 3) := by decide +kernel
theorem dX6_on_16 : decode cX6_on 16 = .ok (.invokevirtual 144, 3) := by decide +kernel
theorem dX6_on_19 : decode cX6_on 19 = .ok (.bipush 99, 2) := by decide +kernel
theorem dX6_on_21 : decode cX6_on 21 = .ok (.invokestatic 75, 3) := by decide +kernel
theorem dX6_on_24 : decode cX6_on 24 = .ok (.ifCond .eq 5, 3) := by decide +kernel
theorem dX6_on_27 : decode cX6_on 27 = .ok (.iconst (-1), 1) := by decide +kernel
theorem dX6_on_28 : decode cX6_on 28 = .ok (.ireturn, 1) := by decide +kernel
theorem dX6_on_29 : decode cX6_on 29 = .ok (.aload_n 0, 1) := by decide +kernel
theorem dX6_on_30 : decode cX6_on 30 = .ok (.aload_n 0, 1) := by decide +kernel
theorem dX6_on_31 : decode cX6_on 31 = .ok (.getfield 10, 3) := by decide +kernel
theorem dX6_on_34 : decode cX6_on 34 = .ok (.getfield 123, 3) := by decide +kernel
theorem dX6_on_37 : decode cX6_on 37 = .ok (.iload_n 1, 1) := by decide +kernel
theorem dX6_on_38 : decode cX6_on 38 = .ok (.iaload, 1) := by decide +kernel
theorem dX6_on_39 : decode cX6_on 39 = .ok (.invokevirtual 147, 3) := by decide +kernel
theorem dX6_on_42 : decode cX6_on 42 = .ok (.aload_n 0, 1) := by decide +kernel
theorem dX6_on_43 : decode cX6_on 43 = .ok (.getfield 61, 3) := by decide +kernel
theorem dX6_on_46 : decode cX6_on 46 = .ok (.iload_n 2, 1) := by decide +kernel
theorem dX6_on_47 : decode cX6_on 47 = .ok (.iaload, 1) := by decide +kernel
theorem dX6_on_48 : decode cX6_on 48 = .ok (.ireturn, 1) := by decide +kernel
theorem dX6_here_0 : decode cX6_here 0 = .ok (.aload_n 0, 1) := by decide +kernel
theorem dX6_here_1 : decode cX6_here 1 = .ok (.getfield 10, 3) := by decide +kernel
theorem dX6_here_4 : decode cX6_here 4 = .ok (.iload_n 1, 1) := by decide +kernel
theorem dX6_here_5 : decode cX6_here 5 = .ok (.invokevirtual 119, 3) := by decide +kernel
theorem dX6_here_8 : decode cX6_here 8 = .ok (.ifCond .eq 23, 3) := by decide +kernel
theorem dX6_here_11 : decode cX6_here 11 = .ok (.iload_n 2, 1) := by decide +kernel
theorem dX6_here_12 : decode cX6_here 12 = .ok (.iconst 0, 1) := by decide +kernel
theorem dX6_here_13 : decode cX6_here 13 = .ok (.bipush 9, 2) := by decide +kernel
theorem dX6_here_15 : decode cX6_here 15 = .ok (.invokestatic 75, 3) := by decide +kernel
theorem dX6_here_18 : decode cX6_here 18 = .ok (.ifCond .ne 13, 3) := by decide +kernel
theorem dX6_here_21 : decode cX6_here 21 = .ok (.iload_n 3, 1) := by decide +kernel
theorem dX6_here_22 : decode cX6_here 22 = .ok (.iconst 0, 1) := by decide +kernel
theorem dX6_here_23 : decode cX6_here 23 = .ok (.bipush 99, 2) := by decide +kernel
theorem dX6_here_25 : decode cX6_here 25 = .ok (.invokestatic 75, 3) := by decide +kernel
theorem dX6_here_28 : decode cX6_here 28 = .ok (.ifCond .eq 5, 3) := by decide +kernel
theorem dX6_here_31 : decode cX6_here 31 = .ok (.iconst (-1), 1) := by decide +kernel
theorem dX6_here_32 : decode cX6_here 32 = .ok (.ireturn, 1) := by decide +kernel
theorem dX6_here_33 : decode cX6_here 33 = .ok (.aload_n 0, 1) := by decide +kernel
theorem dX6_here_34 : decode cX6_here 34 = .ok (.aload_n 0, 1) := by decide +kernel
theorem dX6_here_35 : decode cX6_here 35 = .ok (.getfield 10, 3) := by decide +kernel
theorem dX6_here_38 : decode cX6_here 38 = .ok (.getfield 123, 3) := by decide +kernel
theorem dX6_here_41 : decode cX6_here 41 = .ok (.iload_n 1, 1) := by decide +kernel
theorem dX6_here_42 : decode cX6_here 42 = .ok (.iaload, 1) := by decide +kernel
theorem dX6_here_43 : decode cX6_here 43 = .ok (.invokevirtual 147, 3) := by decide +kernel
theorem dX6_here_46 : decode cX6_here 46 = .ok (.iload_n 3, 1) := by decide +kernel
theorem dX6_here_47 : decode cX6_here 47 = .ok (.aload_n 0, 1) := by decide +kernel
theorem dX6_here_48 : decode cX6_here 48 = .ok (.getfield 10, 3) := by decide +kernel
theorem dX6_here_51 : decode cX6_here 51 = .ok (.invokevirtual 144, 3) := by decide +kernel
theorem dX6_here_54 : decode cX6_here 54 = .ok (.invokestatic 150, 3) := by decide +kernel
theorem dX6_here_57 : decode cX6_here 57 = .ok (.istore 4, 2) := by decide +kernel
theorem dX6_here_59 : decode cX6_here 59 = .ok (.iload 4, 2) := by decide +kernel
theorem dX6_here_61 : decode cX6_here 61 = .ok (.bipush 100, 2) := by decide +kernel
theorem dX6_here_63 : decode cX6_here 63 = .ok (.if_icmp .ge 23, 3) := by decide +kernel
theorem dX6_here_66 : decode cX6_here 66 = .ok (.aload_n 0, 1) := by decide +kernel
theorem dX6_here_67 : decode cX6_here 67 = .ok (.getfield 61, 3) := by decide +kernel
theorem dX6_here_70 : decode cX6_here 70 = .ok (.iload 4, 2) := by decide +kernel
theorem dX6_here_72 : decode cX6_here 72 = .ok (.iaload, 1) := by decide +kernel
theorem dX6_here_73 : decode cX6_here 73 = .ok (.iload_n 2, 1) := by decide +kernel
theorem dX6_here_74 : decode cX6_here 74 = .ok (.if_icmp .ne 6, 3) := by decide +kernel
theorem dX6_here_77 : decode cX6_here 77 = .ok (.iload 4, 2) := by decide +kernel
theorem dX6_here_79 : decode cX6_here 79 = .ok (.ireturn, 1) := by decide +kernel
theorem dX6_here_80 : decode cX6_here 80 = .ok (.iinc 4 1, 3) := by decide +kernel
theorem dX6_here_83 : decode cX6_here 83 = .ok (.goto (-24), 3) := by decide +kernel
theorem dX6_here_86 : decode cX6_here 86 = .ok (.bipush (-3), 2) := by decide +kernel
theorem dX6_here_88 : decode cX6_here 88 = .ok (.ireturn, 1) := by decide +kernel
theorem dX6_never_0 : decode cX6_never 0 = .ok (.aload_n 0, 1) := by decide +kernel
theorem dX6_never_1 : decode cX6_never 1 = .ok (.getfield 10, 3) := by decide +kernel
theorem dX6_never_4 : decode cX6_never 4 = .ok (.iload_n 1, 1) := by decide +kernel
theorem dX6_never_5 : decode cX6_never 5 = .ok (.invokevirtual 119, 3) := by decide +kernel
theorem dX6_never_8 : decode cX6_never 8 = .ok (.ifCond .ne 5, 3) := by decide +kernel
theorem dX6_never_11 : decode cX6_never 11 = .ok (.iconst (-1), 1) := by decide +kernel
theorem dX6_never_12 : decode cX6_never 12 = .ok (.ireturn, 1) := by decide +kernel
theorem dX6_never_13 : decode cX6_never 13 = .ok (.aload_n 0, 1) := by decide +kernel
theorem dX6_never_14 : decode cX6_never 14 = .ok (.aload_n 0, 1) := by decide +kernel
theorem dX6_never_15 : decode cX6_never 15 = .ok (.getfield 10, 3) := by decide +kernel
theorem dX6_never_18 : decode cX6_never 18 = .ok (.getfield 123, 3) := by decide +kernel
theorem dX6_never_21 : decode cX6_never 21 = .ok (.iload_n 1, 1) := by decide +kernel
theorem dX6_never_22 : decode cX6_never 22 = .ok (.iaload, 1) := by decide +kernel
theorem dX6_never_23 : decode cX6_never 23 = .ok (.invokevirtual 147, 3) := by decide +kernel
theorem dX6_never_26 : decode cX6_never 26 = .ok (.iconst 1, 1) := by decide +kernel
theorem dX6_never_27 : decode cX6_never 27 = .ok (.aload_n 0, 1) := by decide +kernel
theorem dX6_never_28 : decode cX6_never 28 = .ok (.getfield 10, 3) := by decide +kernel
theorem dX6_never_31 : decode cX6_never 31 = .ok (.getfield 105, 3) := by decide +kernel
theorem dX6_never_34 : decode cX6_never 34 = .ok (.ishl, 1) := by decide +kernel
theorem dX6_never_35 : decode cX6_never 35 = .ok (.iconst 1, 1) := by decide +kernel
theorem dX6_never_36 : decode cX6_never 36 = .ok (.isub, 1) := by decide +kernel
theorem dX6_never_37 : decode cX6_never 37 = .ok (.istore_n 2, 1) := by decide +kernel
theorem dX6_never_38 : decode cX6_never 38 = .ok (.aload_n 0, 1) := by decide +kernel
theorem dX6_never_39 : decode cX6_never 39 = .ok (.getfield 10, 3) := by decide +kernel
theorem dX6_never_42 : decode cX6_never 42 = .ok (.invokevirtual 144, 3) := by decide +kernel
theorem dX6_never_45 : decode cX6_never 45 = .ok (.istore_n 3, 1) := by decide +kernel
theorem dX6_never_46 : decode cX6_never 46 = .ok (.iload_n 3, 1) := by decide +kernel
theorem dX6_never_47 : decode cX6_never 47 = .ok (.bipush 100, 2) := by decide +kernel
theorem dX6_never_49 : decode cX6_never 49 = .ok (.if_icmp .ge 31, 3) := by decide +kernel
theorem dX6_never_52 : decode cX6_never 52 = .ok (.aload_n 0, 1) := by decide +kernel
theorem dX6_never_53 : decode cX6_never 53 = .ok (.getfield 61, 3) := by decide +kernel
theorem dX6_never_56 : decode cX6_never 56 = .ok (.iload_n 3, 1) := by decide +kernel
theorem dX6_never_57 : decode cX6_never 57 = .ok (.iaload, 1) := by decide +kernel
theorem dX6_never_58 : decode cX6_never 58 = .ok (.ifCond .lt 16, 3) := by decide +kernel
theorem dX6_never_61 : decode cX6_never 61 = .ok (.iload_n 2, 1) := by decide +kernel
theorem dX6_never_62 : decode cX6_never 62 = .ok (.iconst 1, 1) := by decide +kernel
theorem dX6_never_63 : decode cX6_never 63 = .ok (.aload_n 0, 1) := by decide +kernel
theorem dX6_never_64 : decode cX6_never 64 = .ok (.getfield 61, 3) := by decide +kernel
theorem dX6_never_67 : decode cX6_never 67 = .ok (.iload_n 3, 1) := by decide +kernel
theorem dX6_never_68 : decode cX6_never 68 = .ok (.iaload, 1) := by decide +kernel
theorem dX6_never_69 : decode cX6_never 69 = .ok (.ishl, 1) := by decide +kernel
theorem dX6_never_70 : decode cX6_never 70 = .ok (.iconst (-1), 1) := by decide +kernel
theorem dX6_never_71 : decode cX6_never 71 = .ok (.ixor, 1) := by decide +kernel
theorem dX6_never_72 : decode cX6_never 72 = .ok (.iand, 1) := by decide +kernel
theorem dX6_never_73 : decode cX6_never 73 = .ok (.istore_n 2, 1) := by decide +kernel
theorem dX6_never_74 : decode cX6_never 74 = .ok (.iinc 3 1, 3) := by decide +kernel
theorem dX6_never_77 : decode cX6_never 77 = .ok (.goto (-31), 3) := by decide +kernel
theorem dX6_never_80 : decode cX6_never 80 = .ok (.iload_n 2, 1) := by decide +kernel
theorem dX6_never_81 : decode cX6_never 81 = .ok (.ireturn, 1) := by decide +kernel
theorem dX6_fits_0 : decode cX6_fits 0 = .ok (.iload_n 1, 1) := by decide +kernel
theorem dX6_fits_1 : decode cX6_fits 1 = .ok (.iconst 0, 1) := by decide +kernel
theorem dX6_fits_2 : decode cX6_fits 2 = .ok (.bipush 9, 2) := by decide +kernel
theorem dX6_fits_4 : decode cX6_fits 4 = .ok (.invokestatic 75, 3) := by decide +kernel
theorem dX6_fits_7 : decode cX6_fits 7 = .ok (.ifCond .eq 5, 3) := by decide +kernel
theorem dX6_fits_10 : decode cX6_fits 10 = .ok (.iconst (-1), 1) := by decide +kernel
theorem dX6_fits_11 : decode cX6_fits 11 = .ok (.ireturn, 1) := by decide +kernel
theorem dX6_fits_12 : decode cX6_fits 12 = .ok (.iconst 0, 1) := by decide +kernel
theorem dX6_fits_13 : decode cX6_fits 13 = .ok (.istore_n 2, 1) := by decide +kernel
theorem dX6_fits_14 : decode cX6_fits 14 = .ok (.iconst 0, 1) := by decide +kernel
theorem dX6_fits_15 : decode cX6_fits 15 = .ok (.istore_n 3, 1) := by decide +kernel
theorem dX6_fits_16 : decode cX6_fits 16 = .ok (.iload_n 3, 1) := by decide +kernel
theorem dX6_fits_17 : decode cX6_fits 17 = .ok (.sipush 600, 3) := by decide +kernel
theorem dX6_fits_20 : decode cX6_fits 20 = .ok (.if_icmp .ge 24, 3) := by decide +kernel
theorem dX6_fits_23 : decode cX6_fits 23 = .ok (.aload_n 0, 1) := by decide +kernel
theorem dX6_fits_24 : decode cX6_fits 24 = .ok (.getfield 10, 3) := by decide +kernel
theorem dX6_fits_27 : decode cX6_fits 27 = .ok (.iload_n 3, 1) := by decide +kernel
theorem dX6_fits_28 : decode cX6_fits 28 = .ok (.iload_n 1, 1) := by decide +kernel
theorem dX6_fits_29 : decode cX6_fits 29 = .ok (.invokevirtual 155, 3) := by decide +kernel
theorem dX6_fits_32 : decode cX6_fits 32 = .ok (.ifCond .eq 6, 3) := by decide +kernel
theorem dX6_fits_35 : decode cX6_fits 35 = .ok (.iinc 2 1, 3) := by decide +kernel
theorem dX6_fits_38 : decode cX6_fits 38 = .ok (.iinc 3 1, 3) := by decide +kernel
theorem dX6_fits_41 : decode cX6_fits 41 = .ok (.goto (-25), 3) := by decide +kernel
theorem dX6_fits_44 : decode cX6_fits 44 = .ok (.iload_n 2, 1) := by decide +kernel
theorem dX6_fits_45 : decode cX6_fits 45 = .ok (.ireturn, 1) := by decide +kernel
theorem dX6_plainest_0 : decode cX6_plainest 0 = .ok (.iload_n 1, 1) := by decide +kernel
theorem dX6_plainest_1 : decode cX6_plainest 1 = .ok (.iconst 0, 1) := by decide +kernel
theorem dX6_plainest_2 : decode cX6_plainest 2 = .ok (.bipush 9, 2) := by decide +kernel
theorem dX6_plainest_4 : decode cX6_plainest 4 = .ok (.invokestatic 75, 3) := by decide +kernel
theorem dX6_plainest_7 : decode cX6_plainest 7 = .ok (.ifCond .ne 12, 3) := by decide +kernel
theorem dX6_plainest_10 : decode cX6_plainest 10 = .ok (.iload_n 2, 1) := by decide +kernel
theorem dX6_plainest_11 : decode cX6_plainest 11 = .ok (.iconst 0, 1) := by decide +kernel
theorem dX6_plainest_12 : decode cX6_plainest 12 = .ok (.iconst 5, 1) := by decide +kernel
theorem dX6_plainest_13 : decode cX6_plainest 13 = .ok (.invokestatic 75, 3) := by decide +kernel
theorem dX6_plainest_16 : decode cX6_plainest 16 = .ok (.ifCond .eq 5, 3) := by decide +kernel
theorem dX6_plainest_19 : decode cX6_plainest 19 = .ok (.iconst (-1), 1) := by decide +kernel
theorem dX6_plainest_20 : decode cX6_plainest 20 = .ok (.ireturn, 1) := by decide +kernel
theorem dX6_plainest_21 : decode cX6_plainest 21 = .ok (.aload_n 0, 1) := by decide +kernel
theorem dX6_plainest_22 : decode cX6_plainest 22 = .ok (.getfield 10, 3) := by decide +kernel
theorem dX6_plainest_25 : decode cX6_plainest 25 = .ok (.iload_n 1, 1) := by decide +kernel
theorem dX6_plainest_26 : decode cX6_plainest 26 = .ok (.iconst 5, 1) := by decide +kernel
theorem dX6_plainest_27 : decode cX6_plainest 27 = .ok (.invokevirtual 159, 3) := by decide +kernel
theorem dX6_plainest_30 : decode cX6_plainest 30 = .ok (.istore_n 3, 1) := by decide +kernel
theorem dX6_plainest_31 : decode cX6_plainest 31 = .ok (.iload_n 3, 1) := by decide +kernel
theorem dX6_plainest_32 : decode cX6_plainest 32 = .ok (.ifCond .ge 8, 3) := by decide +kernel
theorem dX6_plainest_35 : decode cX6_plainest 35 = .ok (.bipush (-3), 2) := by decide +kernel
theorem dX6_plainest_37 : decode cX6_plainest 37 = .ok (.goto 9, 3) := by decide +kernel
theorem dX6_plainest_40 : decode cX6_plainest 40 = .ok (.aload_n 0, 1) := by decide +kernel
theorem dX6_plainest_41 : decode cX6_plainest 41 = .ok (.iload_n 3, 1) := by decide +kernel
theorem dX6_plainest_42 : decode cX6_plainest 42 = .ok (.iload_n 2, 1) := by decide +kernel
theorem dX6_plainest_43 : decode cX6_plainest 43 = .ok (.invokevirtual 126, 3) := by decide +kernel
theorem dX6_plainest_46 : decode cX6_plainest 46 = .ok (.ireturn, 1) := by decide +kernel
theorem dX6_odds_0 : decode cX6_odds 0 = .ok (.iload_n 1, 1) := by decide +kernel
theorem dX6_odds_1 : decode cX6_odds 1 = .ok (.iload_n 3, 1) := by decide +kernel
theorem dX6_odds_2 : decode cX6_odds 2 = .ok (.invokestatic 162, 3) := by decide +kernel
theorem dX6_odds_5 : decode cX6_odds 5 = .ok (.ifCond .ne 23, 3) := by decide +kernel
theorem dX6_odds_8 : decode cX6_odds 8 = .ok (.iload_n 2, 1) := by decide +kernel
theorem dX6_odds_9 : decode cX6_odds 9 = .ok (.iconst 0, 1) := by decide +kernel
theorem dX6_odds_10 : decode cX6_odds 10 = .ok (.bipush 9, 2) := by decide +kernel
theorem dX6_odds_12 : decode cX6_odds 12 = .ok (.invokestatic 75, 3) := by decide +kernel
theorem dX6_odds_15 : decode cX6_odds 15 = .ok (.ifCond .ne 13, 3) := by decide +kernel
theorem dX6_odds_18 : decode cX6_odds 18 = .ok (.iload 4, 2) := by decide +kernel
theorem dX6_odds_20 : decode cX6_odds 20 = .ok (.iconst 0, 1) := by decide +kernel
theorem dX6_odds_21 : decode cX6_odds 21 = .ok (.iconst 1, 1) := by decide +kernel
theorem dX6_odds_22 : decode cX6_odds 22 = .ok (.invokestatic 75, 3) := by decide +kernel
theorem dX6_odds_25 : decode cX6_odds 25 = .ok (.ifCond .eq 5, 3) := by decide +kernel
theorem dX6_odds_28 : decode cX6_odds 28 = .ok (.iconst (-1), 1) := by decide +kernel
theorem dX6_odds_29 : decode cX6_odds 29 = .ok (.ireturn, 1) := by decide +kernel
theorem dX6_odds_30 : decode cX6_odds 30 = .ok (.aload_n 0, 1) := by decide +kernel
theorem dX6_odds_31 : decode cX6_odds 31 = .ok (.iload_n 1, 1) := by decide +kernel
theorem dX6_odds_32 : decode cX6_odds 32 = .ok (.iload_n 3, 1) := by decide +kernel
theorem dX6_odds_33 : decode cX6_odds 33 = .ok (.invokevirtual 165, 3) := by decide +kernel
theorem dX6_odds_36 : decode cX6_odds 36 = .ok (.istore 5, 2) := by decide +kernel
theorem dX6_odds_38 : decode cX6_odds 38 = .ok (.iload 5, 2) := by decide +kernel
theorem dX6_odds_40 : decode cX6_odds 40 = .ok (.ifCond .ne 6, 3) := by decide +kernel
theorem dX6_odds_43 : decode cX6_odds 43 = .ok (.bipush (-3), 2) := by decide +kernel
theorem dX6_odds_45 : decode cX6_odds 45 = .ok (.ireturn, 1) := by decide +kernel
theorem dX6_odds_46 : decode cX6_odds 46 = .ok (.aload_n 0, 1) := by decide +kernel
theorem dX6_odds_47 : decode cX6_odds 47 = .ok (.getfield 57, 3) := by decide +kernel
theorem dX6_odds_50 : decode cX6_odds 50 = .ok (.iload_n 2, 1) := by decide +kernel
theorem dX6_odds_51 : decode cX6_odds 51 = .ok (.iaload, 1) := by decide +kernel
theorem dX6_odds_52 : decode cX6_odds 52 = .ok (.iload 5, 2) := by decide +kernel
theorem dX6_odds_54 : decode cX6_odds 54 = .ok (.invokestatic 168, 3) := by decide +kernel
theorem dX6_odds_57 : decode cX6_odds 57 = .ok (.istore 6, 2) := by decide +kernel
theorem dX6_odds_59 : decode cX6_odds 59 = .ok (.iload 6, 2) := by decide +kernel
theorem dX6_odds_61 : decode cX6_odds 61 = .ok (.iconst 1, 1) := by decide +kernel
theorem dX6_odds_62 : decode cX6_odds 62 = .ok (.if_icmp .ge 6, 3) := by decide +kernel
theorem dX6_odds_65 : decode cX6_odds 65 = .ok (.bipush (-3), 2) := by decide +kernel
theorem dX6_odds_67 : decode cX6_odds 67 = .ok (.ireturn, 1) := by decide +kernel
theorem dX6_odds_68 : decode cX6_odds 68 = .ok (.iload 4, 2) := by decide +kernel
theorem dX6_odds_70 : decode cX6_odds 70 = .ok (.ifCond .ne 12, 3) := by decide +kernel
theorem dX6_odds_73 : decode cX6_odds 73 = .ok (.aload_n 0, 1) := by decide +kernel
theorem dX6_odds_74 : decode cX6_odds 74 = .ok (.getfield 57, 3) := by decide +kernel
theorem dX6_odds_77 : decode cX6_odds 77 = .ok (.iload_n 2, 1) := by decide +kernel
theorem dX6_odds_78 : decode cX6_odds 78 = .ok (.iaload, 1) := by decide +kernel
theorem dX6_odds_79 : decode cX6_odds 79 = .ok (.goto 5, 3) := by decide +kernel
theorem dX6_odds_82 : decode cX6_odds 82 = .ok (.iload 5, 2) := by decide +kernel
theorem dX6_odds_84 : decode cX6_odds 84 = .ok (.iload 6, 2) := by decide +kernel
theorem dX6_odds_86 : decode cX6_odds 86 = .ok (.idiv, 1) := by decide +kernel
theorem dX6_odds_87 : decode cX6_odds 87 = .ok (.ireturn, 1) := by decide +kernel
theorem dX6_bet_0 : decode cX6_bet 0 = .ok (.iload_n 1, 1) := by decide +kernel
theorem dX6_bet_1 : decode cX6_bet 1 = .ok (.iload_n 2, 1) := by decide +kernel
theorem dX6_bet_2 : decode cX6_bet 2 = .ok (.invokestatic 162, 3) := by decide +kernel
theorem dX6_bet_5 : decode cX6_bet 5 = .ok (.ifCond .eq 5, 3) := by decide +kernel
theorem dX6_bet_8 : decode cX6_bet 8 = .ok (.iconst (-1), 1) := by decide +kernel
theorem dX6_bet_9 : decode cX6_bet 9 = .ok (.ireturn, 1) := by decide +kernel
theorem dX6_bet_10 : decode cX6_bet 10 = .ok (.aload_n 0, 1) := by decide +kernel
theorem dX6_bet_11 : decode cX6_bet 11 = .ok (.iload_n 1, 1) := by decide +kernel
theorem dX6_bet_12 : decode cX6_bet 12 = .ok (.iload_n 2, 1) := by decide +kernel
theorem dX6_bet_13 : decode cX6_bet 13 = .ok (.invokevirtual 165, 3) := by decide +kernel
theorem dX6_bet_16 : decode cX6_bet 16 = .ok (.ifCond .ne 6, 3) := by decide +kernel
theorem dX6_bet_19 : decode cX6_bet 19 = .ok (.bipush (-3), 2) := by decide +kernel
theorem dX6_bet_21 : decode cX6_bet 21 = .ok (.ireturn, 1) := by decide +kernel
theorem dX6_bet_22 : decode cX6_bet 22 = .ok (.iconst 0, 1) := by decide +kernel
theorem dX6_bet_23 : decode cX6_bet 23 = .ok (.istore_n 3, 1) := by decide +kernel
theorem dX6_bet_24 : decode cX6_bet 24 = .ok (.iconst 1, 1) := by decide +kernel
theorem dX6_bet_25 : decode cX6_bet 25 = .ok (.istore 4, 2) := by decide +kernel
theorem dX6_bet_27 : decode cX6_bet 27 = .ok (.iload 4, 2) := by decide +kernel
theorem dX6_bet_29 : decode cX6_bet 29 = .ok (.bipush 10, 2) := by decide +kernel
theorem dX6_bet_31 : decode cX6_bet 31 = .ok (.if_icmp .ge 28, 3) := by decide +kernel
theorem dX6_bet_34 : decode cX6_bet 34 = .ok (.aload_n 0, 1) := by decide +kernel
theorem dX6_bet_35 : decode cX6_bet 35 = .ok (.getfield 57, 3) := by decide +kernel
theorem dX6_bet_38 : decode cX6_bet 38 = .ok (.iload 4, 2) := by decide +kernel
theorem dX6_bet_40 : decode cX6_bet 40 = .ok (.iaload, 1) := by decide +kernel
theorem dX6_bet_41 : decode cX6_bet 41 = .ok (.aload_n 0, 1) := by decide +kernel
theorem dX6_bet_42 : decode cX6_bet 42 = .ok (.getfield 57, 3) := by decide +kernel
theorem dX6_bet_45 : decode cX6_bet 45 = .ok (.iload_n 3, 1) := by decide +kernel
theorem dX6_bet_46 : decode cX6_bet 46 = .ok (.iaload, 1) := by decide +kernel
theorem dX6_bet_47 : decode cX6_bet 47 = .ok (.if_icmp .le 6, 3) := by decide +kernel
theorem dX6_bet_50 : decode cX6_bet 50 = .ok (.iload 4, 2) := by decide +kernel
theorem dX6_bet_52 : decode cX6_bet 52 = .ok (.istore_n 3, 1) := by decide +kernel
theorem dX6_bet_53 : decode cX6_bet 53 = .ok (.iinc 4 1, 3) := by decide +kernel
theorem dX6_bet_56 : decode cX6_bet 56 = .ok (.goto (-29), 3) := by decide +kernel
theorem dX6_bet_59 : decode cX6_bet 59 = .ok (.iload_n 3, 1) := by decide +kernel
theorem dX6_bet_60 : decode cX6_bet 60 = .ok (.ireturn, 1) := by decide +kernel
theorem dX6_hard_0 : decode cX6_hard 0 = .ok (.iload_n 1, 1) := by decide +kernel
theorem dX6_hard_1 : decode cX6_hard 1 = .ok (.iload_n 2, 1) := by decide +kernel
theorem dX6_hard_2 : decode cX6_hard 2 = .ok (.invokestatic 162, 3) := by decide +kernel
theorem dX6_hard_5 : decode cX6_hard 5 = .ok (.ifCond .eq 5, 3) := by decide +kernel
theorem dX6_hard_8 : decode cX6_hard 8 = .ok (.iconst (-1), 1) := by decide +kernel
theorem dX6_hard_9 : decode cX6_hard 9 = .ok (.ireturn, 1) := by decide +kernel
theorem dX6_hard_10 : decode cX6_hard 10 = .ok (.aload_n 0, 1) := by decide +kernel
theorem dX6_hard_11 : decode cX6_hard 11 = .ok (.iload_n 1, 1) := by decide +kernel
theorem dX6_hard_12 : decode cX6_hard 12 = .ok (.iload_n 2, 1) := by decide +kernel
theorem dX6_hard_13 : decode cX6_hard 13 = .ok (.invokevirtual 165, 3) := by decide +kernel
theorem dX6_hard_16 : decode cX6_hard 16 = .ok (.ifCond .ne 6, 3) := by decide +kernel
theorem dX6_hard_19 : decode cX6_hard 19 = .ok (.bipush (-3), 2) := by decide +kernel
theorem dX6_hard_21 : decode cX6_hard 21 = .ok (.ireturn, 1) := by decide +kernel
theorem dX6_hard_22 : decode cX6_hard 22 = .ok (.iconst 0, 1) := by decide +kernel
theorem dX6_hard_23 : decode cX6_hard 23 = .ok (.istore_n 3, 1) := by decide +kernel
theorem dX6_hard_24 : decode cX6_hard 24 = .ok (.iconst 1, 1) := by decide +kernel
theorem dX6_hard_25 : decode cX6_hard 25 = .ok (.istore 4, 2) := by decide +kernel
theorem dX6_hard_27 : decode cX6_hard 27 = .ok (.iload 4, 2) := by decide +kernel
theorem dX6_hard_29 : decode cX6_hard 29 = .ok (.bipush 10, 2) := by decide +kernel
theorem dX6_hard_31 : decode cX6_hard 31 = .ok (.if_icmp .ge 40, 3) := by decide +kernel
theorem dX6_hard_34 : decode cX6_hard 34 = .ok (.iload 4, 2) := by decide +kernel
theorem dX6_hard_36 : decode cX6_hard 36 = .ok (.aload_n 0, 1) := by decide +kernel
theorem dX6_hard_37 : decode cX6_hard 37 = .ok (.getfield 10, 3) := by decide +kernel
theorem dX6_hard_40 : decode cX6_hard 40 = .ok (.getfield 105, 3) := by decide +kernel
theorem dX6_hard_43 : decode cX6_hard 43 = .ok (.if_icmp .ge 28, 3) := by decide +kernel
theorem dX6_hard_46 : decode cX6_hard 46 = .ok (.aload_n 0, 1) := by decide +kernel
theorem dX6_hard_47 : decode cX6_hard 47 = .ok (.getfield 57, 3) := by decide +kernel
theorem dX6_hard_50 : decode cX6_hard 50 = .ok (.iload 4, 2) := by decide +kernel
theorem dX6_hard_52 : decode cX6_hard 52 = .ok (.iaload, 1) := by decide +kernel
theorem dX6_hard_53 : decode cX6_hard 53 = .ok (.aload_n 0, 1) := by decide +kernel
theorem dX6_hard_54 : decode cX6_hard 54 = .ok (.getfield 57, 3) := by decide +kernel
theorem dX6_hard_57 : decode cX6_hard 57 = .ok (.iload_n 3, 1) := by decide +kernel
theorem dX6_hard_58 : decode cX6_hard 58 = .ok (.iaload, 1) := by decide +kernel
theorem dX6_hard_59 : decode cX6_hard 59 = .ok (.if_icmp .ge 6, 3) := by decide +kernel
theorem dX6_hard_62 : decode cX6_hard 62 = .ok (.iload 4, 2) := by decide +kernel
theorem dX6_hard_64 : decode cX6_hard 64 = .ok (.istore_n 3, 1) := by decide +kernel
theorem dX6_hard_65 : decode cX6_hard 65 = .ok (.iinc 4 1, 3) := by decide +kernel
theorem dX6_hard_68 : decode cX6_hard 68 = .ok (.goto (-41), 3) := by decide +kernel
theorem dX6_hard_71 : decode cX6_hard 71 = .ok (.iload_n 3, 1) := by decide +kernel
theorem dX6_hard_72 : decode cX6_hard 72 = .ok (.ireturn, 1) := by decide +kernel
theorem dX6_sure_0 : decode cX6_sure 0 = .ok (.iload_n 1, 1) := by decide +kernel
theorem dX6_sure_1 : decode cX6_sure 1 = .ok (.iload_n 2, 1) := by decide +kernel
theorem dX6_sure_2 : decode cX6_sure 2 = .ok (.invokestatic 162, 3) := by decide +kernel
theorem dX6_sure_5 : decode cX6_sure 5 = .ok (.ifCond .eq 5, 3) := by decide +kernel
theorem dX6_sure_8 : decode cX6_sure 8 = .ok (.iconst (-1), 1) := by decide +kernel
theorem dX6_sure_9 : decode cX6_sure 9 = .ok (.ireturn, 1) := by decide +kernel
theorem dX6_sure_10 : decode cX6_sure 10 = .ok (.aload_n 0, 1) := by decide +kernel
theorem dX6_sure_11 : decode cX6_sure 11 = .ok (.iload_n 1, 1) := by decide +kernel
theorem dX6_sure_12 : decode cX6_sure 12 = .ok (.iload_n 2, 1) := by decide +kernel
theorem dX6_sure_13 : decode cX6_sure 13 = .ok (.invokevirtual 165, 3) := by decide +kernel
theorem dX6_sure_16 : decode cX6_sure 16 = .ok (.istore_n 3, 1) := by decide +kernel
theorem dX6_sure_17 : decode cX6_sure 17 = .ok (.iload_n 3, 1) := by decide +kernel
theorem dX6_sure_18 : decode cX6_sure 18 = .ok (.ifCond .ne 6, 3) := by decide +kernel
theorem dX6_sure_21 : decode cX6_sure 21 = .ok (.bipush (-3), 2) := by decide +kernel
theorem dX6_sure_23 : decode cX6_sure 23 = .ok (.ireturn, 1) := by decide +kernel
theorem dX6_sure_24 : decode cX6_sure 24 = .ok (.iconst 0, 1) := by decide +kernel
theorem dX6_sure_25 : decode cX6_sure 25 = .ok (.istore 4, 2) := by decide +kernel
theorem dX6_sure_27 : decode cX6_sure 27 = .ok (.iload 4, 2) := by decide +kernel
theorem dX6_sure_29 : decode cX6_sure 29 = .ok (.bipush 10, 2) := by decide +kernel
theorem dX6_sure_31 : decode cX6_sure 31 = .ok (.if_icmp .ge 23, 3) := by decide +kernel
theorem dX6_sure_34 : decode cX6_sure 34 = .ok (.aload_n 0, 1) := by decide +kernel
theorem dX6_sure_35 : decode cX6_sure 35 = .ok (.getfield 57, 3) := by decide +kernel
theorem dX6_sure_38 : decode cX6_sure 38 = .ok (.iload 4, 2) := by decide +kernel
theorem dX6_sure_40 : decode cX6_sure 40 = .ok (.iaload, 1) := by decide +kernel
theorem dX6_sure_41 : decode cX6_sure 41 = .ok (.iload_n 3, 1) := by decide +kernel
theorem dX6_sure_42 : decode cX6_sure 42 = .ok (.if_icmp .ne 6, 3) := by decide +kernel
theorem dX6_sure_45 : decode cX6_sure 45 = .ok (.iload 4, 2) := by decide +kernel
theorem dX6_sure_47 : decode cX6_sure 47 = .ok (.ireturn, 1) := by decide +kernel
theorem dX6_sure_48 : decode cX6_sure 48 = .ok (.iinc 4 1, 3) := by decide +kernel
theorem dX6_sure_51 : decode cX6_sure 51 = .ok (.goto (-24), 3) := by decide +kernel
theorem dX6_sure_54 : decode cX6_sure 54 = .ok (.bipush (-3), 2) := by decide +kernel
theorem dX6_sure_56 : decode cX6_sure 56 = .ok (.ireturn, 1) := by decide +kernel
theorem dX6_leave_0 : decode cX6_leave 0 = .ok (.iload_n 1, 1) := by decide +kernel
theorem dX6_leave_1 : decode cX6_leave 1 = .ok (.iconst 0, 1) := by decide +kernel
theorem dX6_leave_2 : decode cX6_leave 2 = .ok (.bipush 9, 2) := by decide +kernel
theorem dX6_leave_4 : decode cX6_leave 4 = .ok (.invokestatic 75, 3) := by decide +kernel
theorem dX6_leave_7 : decode cX6_leave 7 = .ok (.ifCond .eq 5, 3) := by decide +kernel
theorem dX6_leave_10 : decode cX6_leave 10 = .ok (.iconst (-1), 1) := by decide +kernel
theorem dX6_leave_11 : decode cX6_leave 11 = .ok (.ireturn, 1) := by decide +kernel
theorem dX6_leave_12 : decode cX6_leave 12 = .ok (.aload_n 0, 1) := by decide +kernel
theorem dX6_leave_13 : decode cX6_leave 13 = .ok (.getfield 10, 3) := by decide +kernel
theorem dX6_leave_16 : decode cX6_leave 16 = .ok (.iload_n 1, 1) := by decide +kernel
theorem dX6_leave_17 : decode cX6_leave 17 = .ok (.iconst 5, 1) := by decide +kernel
theorem dX6_leave_18 : decode cX6_leave 18 = .ok (.invokevirtual 159, 3) := by decide +kernel
theorem dX6_leave_21 : decode cX6_leave 21 = .ok (.istore_n 2, 1) := by decide +kernel
theorem dX6_leave_22 : decode cX6_leave 22 = .ok (.iload_n 2, 1) := by decide +kernel
theorem dX6_leave_23 : decode cX6_leave 23 = .ok (.ifCond .ge 7, 3) := by decide +kernel
theorem dX6_leave_26 : decode cX6_leave 26 = .ok (.iconst 5, 1) := by decide +kernel
theorem dX6_leave_27 : decode cX6_leave 27 = .ok (.goto 7, 3) := by decide +kernel
theorem dX6_leave_30 : decode cX6_leave 30 = .ok (.iload_n 2, 1) := by decide +kernel
theorem dX6_leave_31 : decode cX6_leave 31 = .ok (.invokestatic 171, 3) := by decide +kernel
theorem dX6_leave_34 : decode cX6_leave 34 = .ok (.istore_n 3, 1) := by decide +kernel
theorem dX6_leave_35 : decode cX6_leave 35 = .ok (.bipush (-3), 2) := by decide +kernel
theorem dX6_leave_37 : decode cX6_leave 37 = .ok (.istore 4, 2) := by decide +kernel
theorem dX6_leave_39 : decode cX6_leave 39 = .ok (.iconst 0, 1) := by decide +kernel
theorem dX6_leave_40 : decode cX6_leave 40 = .ok (.istore 5, 2) := by decide +kernel
theorem dX6_leave_42 : decode cX6_leave 42 = .ok (.iload 5, 2) := by decide +kernel
theorem dX6_leave_44 : decode cX6_leave 44 = .ok (.bipush 24, 2) := by decide +kernel
theorem dX6_leave_46 : decode cX6_leave 46 = .ok (.if_icmp .ge 78, 3) := by decide +kernel
theorem dX6_leave_49 : decode cX6_leave 49 = .ok (.aload_n 0, 1) := by decide +kernel
theorem dX6_leave_50 : decode cX6_leave 50 = .ok (.getfield 10, 3) := by decide +kernel
theorem dX6_leave_53 : decode cX6_leave 53 = .ok (.getfield 99, 3) := by decide +kernel
theorem dX6_leave_56 : decode cX6_leave 56 = .ok (.iload 5, 2) := by decide +kernel
theorem dX6_leave_58 : decode cX6_leave 58 = .ok (.iaload, 1) := by decide +kernel
theorem dX6_leave_59 : decode cX6_leave 59 = .ok (.istore 6, 2) := by decide +kernel
theorem dX6_leave_61 : decode cX6_leave 61 = .ok (.iload 6, 2) := by decide +kernel
theorem dX6_leave_63 : decode cX6_leave 63 = .ok (.bipush (-9), 2) := by decide +kernel
theorem dX6_leave_65 : decode cX6_leave 65 = .ok (.if_icmp .eq 53, 3) := by decide +kernel
theorem dX6_leave_68 : decode cX6_leave 68 = .ok (.aload_n 0, 1) := by decide +kernel
theorem dX6_leave_69 : decode cX6_leave 69 = .ok (.getfield 10, 3) := by decide +kernel
theorem dX6_leave_72 : decode cX6_leave 72 = .ok (.getfield 99, 3) := by decide +kernel
theorem dX6_leave_75 : decode cX6_leave 75 = .ok (.iload 5, 2) := by decide +kernel
theorem dX6_leave_77 : decode cX6_leave 77 = .ok (.bipush (-9), 2) := by decide +kernel
theorem dX6_leave_79 : decode cX6_leave 79 = .ok (.iastore, 1) := by decide +kernel
theorem dX6_leave_80 : decode cX6_leave 80 = .ok (.aload_n 0, 1) := by decide +kernel
theorem dX6_leave_81 : decode cX6_leave 81 = .ok (.getfield 10, 3) := by decide +kernel
theorem dX6_leave_84 : decode cX6_leave 84 = .ok (.iload_n 1, 1) := by decide +kernel
theorem dX6_leave_85 : decode cX6_leave 85 = .ok (.iload_n 3, 1) := by decide +kernel
theorem dX6_leave_86 : decode cX6_leave 86 = .ok (.invokevirtual 159, 3) := by decide +kernel
theorem dX6_leave_89 : decode cX6_leave 89 = .ok (.istore 7, 2) := by decide +kernel
theorem dX6_leave_91 : decode cX6_leave 91 = .ok (.aload_n 0, 1) := by decide +kernel
theorem dX6_leave_92 : decode cX6_leave 92 = .ok (.getfield 10, 3) := by decide +kernel
theorem dX6_leave_95 : decode cX6_leave 95 = .ok (.getfield 99, 3) := by decide +kernel
theorem dX6_leave_98 : decode cX6_leave 98 = .ok (.iload 5, 2) := by decide +kernel
theorem dX6_leave_100 : decode cX6_leave 100 = .ok (.iload 6, 2) := by decide +kernel
theorem dX6_leave_102 : decode cX6_leave 102 = .ok (.iastore, 1) := by decide +kernel
theorem dX6_leave_103 : decode cX6_leave 103 = .ok (.iload 7, 2) := by decide +kernel
theorem dX6_leave_105 : decode cX6_leave 105 = .ok (.ifCond .lt 13, 3) := by decide +kernel
theorem dX6_leave_108 : decode cX6_leave 108 = .ok (.iload 7, 2) := by decide +kernel
theorem dX6_leave_110 : decode cX6_leave 110 = .ok (.invokestatic 171, 3) := by decide +kernel
theorem dX6_leave_113 : decode cX6_leave 113 = .ok (.istore_n 3, 1) := by decide +kernel
theorem dX6_leave_114 : decode cX6_leave 114 = .ok (.iload 5, 2) := by decide +kernel
theorem dX6_leave_116 : decode cX6_leave 116 = .ok (.istore 4, 2) := by decide +kernel
theorem dX6_leave_118 : decode cX6_leave 118 = .ok (.iinc 5 1, 3) := by decide +kernel
theorem dX6_leave_121 : decode cX6_leave 121 = .ok (.goto (-79), 3) := by decide +kernel
theorem dX6_leave_124 : decode cX6_leave 124 = .ok (.iload 4, 2) := by decide +kernel
theorem dX6_leave_126 : decode cX6_leave 126 = .ok (.ireturn, 1) := by decide +kernel
theorem dX6_camp_0 : decode cX6_camp 0 = .ok (.iload_n 1, 1) := by decide +kernel
theorem dX6_camp_1 : decode cX6_camp 1 = .ok (.iload_n 2, 1) := by decide +kernel
theorem dX6_camp_2 : decode cX6_camp 2 = .ok (.invokestatic 162, 3) := by decide +kernel
theorem dX6_camp_5 : decode cX6_camp 5 = .ok (.ifCond .eq 5, 3) := by decide +kernel
theorem dX6_camp_8 : decode cX6_camp 8 = .ok (.iconst (-1), 1) := by decide +kernel
theorem dX6_camp_9 : decode cX6_camp 9 = .ok (.ireturn, 1) := by decide +kernel
theorem dX6_camp_10 : decode cX6_camp 10 = .ok (.aload_n 0, 1) := by decide +kernel
theorem dX6_camp_11 : decode cX6_camp 11 = .ok (.iload_n 1, 1) := by decide +kernel
theorem dX6_camp_12 : decode cX6_camp 12 = .ok (.iload_n 2, 1) := by decide +kernel
theorem dX6_camp_13 : decode cX6_camp 13 = .ok (.invokevirtual 165, 3) := by decide +kernel
theorem dX6_camp_16 : decode cX6_camp 16 = .ok (.ifCond .ne 6, 3) := by decide +kernel
theorem dX6_camp_19 : decode cX6_camp 19 = .ok (.bipush (-3), 2) := by decide +kernel
theorem dX6_camp_21 : decode cX6_camp 21 = .ok (.ireturn, 1) := by decide +kernel
theorem dX6_camp_22 : decode cX6_camp 22 = .ok (.iconst 0, 1) := by decide +kernel
theorem dX6_camp_23 : decode cX6_camp 23 = .ok (.istore_n 3, 1) := by decide +kernel
theorem dX6_camp_24 : decode cX6_camp 24 = .ok (.iconst 1, 1) := by decide +kernel
theorem dX6_camp_25 : decode cX6_camp 25 = .ok (.istore 4, 2) := by decide +kernel
theorem dX6_camp_27 : decode cX6_camp 27 = .ok (.iload 4, 2) := by decide +kernel
theorem dX6_camp_29 : decode cX6_camp 29 = .ok (.aload_n 0, 1) := by decide +kernel
theorem dX6_camp_30 : decode cX6_camp 30 = .ok (.getfield 10, 3) := by decide +kernel
theorem dX6_camp_33 : decode cX6_camp 33 = .ok (.getfield 105, 3) := by decide +kernel
theorem dX6_camp_36 : decode cX6_camp 36 = .ok (.if_icmp .ge 26, 3) := by decide +kernel
theorem dX6_camp_39 : decode cX6_camp 39 = .ok (.aload_n 0, 1) := by decide +kernel
theorem dX6_camp_40 : decode cX6_camp 40 = .ok (.iload 4, 2) := by decide +kernel
theorem dX6_camp_42 : decode cX6_camp 42 = .ok (.invokevirtual 174, 3) := by decide +kernel
theorem dX6_camp_45 : decode cX6_camp 45 = .ok (.aload_n 0, 1) := by decide +kernel
theorem dX6_camp_46 : decode cX6_camp 46 = .ok (.iload_n 3, 1) := by decide +kernel
theorem dX6_camp_47 : decode cX6_camp 47 = .ok (.invokevirtual 174, 3) := by decide +kernel
theorem dX6_camp_50 : decode cX6_camp 50 = .ok (.if_icmp .ge 6, 3) := by decide +kernel
theorem dX6_camp_53 : decode cX6_camp 53 = .ok (.iload 4, 2) := by decide +kernel
theorem dX6_camp_55 : decode cX6_camp 55 = .ok (.istore_n 3, 1) := by decide +kernel
theorem dX6_camp_56 : decode cX6_camp 56 = .ok (.iinc 4 1, 3) := by decide +kernel
theorem dX6_camp_59 : decode cX6_camp 59 = .ok (.goto (-32), 3) := by decide +kernel
theorem dX6_camp_62 : decode cX6_camp 62 = .ok (.iload_n 3, 1) := by decide +kernel
theorem dX6_camp_63 : decode cX6_camp 63 = .ok (.ireturn, 1) := by decide +kernel
theorem dX6_seed_0 : decode cX6_seed 0 = .ok (.aload_n 0, 1) := by decide +kernel
theorem dX6_seed_1 : decode cX6_seed 1 = .ok (.getfield 68, 3) := by decide +kernel
theorem dX6_seed_4 : decode cX6_seed 4 = .ok (.istore_n 2, 1) := by decide +kernel
theorem dX6_seed_5 : decode cX6_seed 5 = .ok (.aload_n 0, 1) := by decide +kernel
theorem dX6_seed_6 : decode cX6_seed 6 = .ok (.iload_n 1, 1) := by decide +kernel
theorem dX6_seed_7 : decode cX6_seed 7 = .ok (.putfield 68, 3) := by decide +kernel
theorem dX6_seed_10 : decode cX6_seed 10 = .ok (.iload_n 2, 1) := by decide +kernel
theorem dX6_seed_11 : decode cX6_seed 11 = .ok (.ireturn, 1) := by decide +kernel
theorem dX6_draw_0 : decode cX6_draw 0 = .ok (.iload_n 1, 1) := by decide +kernel
theorem dX6_draw_1 : decode cX6_draw 1 = .ok (.iload_n 2, 1) := by decide +kernel
theorem dX6_draw_2 : decode cX6_draw 2 = .ok (.invokestatic 162, 3) := by decide +kernel
theorem dX6_draw_5 : decode cX6_draw 5 = .ok (.ifCond .eq 5, 3) := by decide +kernel
theorem dX6_draw_8 : decode cX6_draw 8 = .ok (.iconst (-1), 1) := by decide +kernel
theorem dX6_draw_9 : decode cX6_draw 9 = .ok (.ireturn, 1) := by decide +kernel
theorem dX6_draw_10 : decode cX6_draw 10 = .ok (.aload_n 0, 1) := by decide +kernel
theorem dX6_draw_11 : decode cX6_draw 11 = .ok (.iload_n 1, 1) := by decide +kernel
theorem dX6_draw_12 : decode cX6_draw 12 = .ok (.iload_n 2, 1) := by decide +kernel
theorem dX6_draw_13 : decode cX6_draw 13 = .ok (.invokevirtual 165, 3) := by decide +kernel
theorem dX6_draw_16 : decode cX6_draw 16 = .ok (.istore_n 3, 1) := by decide +kernel
theorem dX6_draw_17 : decode cX6_draw 17 = .ok (.iload_n 3, 1) := by decide +kernel
theorem dX6_draw_18 : decode cX6_draw 18 = .ok (.ifCond .ne 6, 3) := by decide +kernel
theorem dX6_draw_21 : decode cX6_draw 21 = .ok (.bipush (-3), 2) := by decide +kernel
theorem dX6_draw_23 : decode cX6_draw 23 = .ok (.ireturn, 1) := by decide +kernel
theorem dX6_draw_24 : decode cX6_draw 24 = .ok (.aload_n 0, 1) := by decide +kernel
theorem dX6_draw_25 : decode cX6_draw 25 = .ok (.aload_n 0, 1) := by decide +kernel
theorem dX6_draw_26 : decode cX6_draw 26 = .ok (.getfield 68, 3) := by decide +kernel
theorem dX6_draw_29 : decode cX6_draw 29 = .ok (.ldc 177, 2) := by decide +kernel
theorem dX6_draw_31 : decode cX6_draw 31 = .ok (.imul, 1) := by decide +kernel
theorem dX6_draw_32 : decode cX6_draw 32 = .ok (.sipush 12345, 3) := by decide +kernel
theorem dX6_draw_35 : decode cX6_draw 35 = .ok (.iadd, 1) := by decide +kernel
theorem dX6_draw_36 : decode cX6_draw 36 = .ok (.putfield 68, 3) := by decide +kernel
theorem dX6_draw_39 : decode cX6_draw 39 = .ok (.aload_n 0, 1) := by decide +kernel
theorem dX6_draw_40 : decode cX6_draw 40 = .ok (.iload_n 1, 1) := by decide +kernel
theorem dX6_draw_41 : decode cX6_draw 41 = .ok (.iload_n 2, 1) := by decide +kernel
theorem dX6_draw_42 : decode cX6_draw 42 = .ok (.aload_n 0, 1) := by decide +kernel
theorem dX6_draw_43 : decode cX6_draw 43 = .ok (.getfield 68, 3) := by decide +kernel
theorem dX6_draw_46 : decode cX6_draw 46 = .ok (.bipush 16, 2) := by decide +kernel
theorem dX6_draw_48 : decode cX6_draw 48 = .ok (.iushr, 1) := by decide +kernel
theorem dX6_draw_49 : decode cX6_draw 49 = .ok (.iload_n 3, 1) := by decide +kernel
theorem dX6_draw_50 : decode cX6_draw 50 = .ok (.irem, 1) := by decide +kernel
theorem dX6_draw_51 : decode cX6_draw 51 = .ok (.invokevirtual 178, 3) := by decide +kernel
theorem dX6_draw_54 : decode cX6_draw 54 = .ok (.ireturn, 1) := by decide +kernel
theorem dX6_prove_0 : decode cX6_prove 0 = .ok (.aload_n 0, 1) := by decide +kernel
theorem dX6_prove_1 : decode cX6_prove 1 = .ok (.getfield 10, 3) := by decide +kernel
theorem dX6_prove_4 : decode cX6_prove 4 = .ok (.iload_n 1, 1) := by decide +kernel
theorem dX6_prove_5 : decode cX6_prove 5 = .ok (.invokevirtual 119, 3) := by decide +kernel
theorem dX6_prove_8 : decode cX6_prove 8 = .ok (.ifCond .ne 5, 3) := by decide +kernel
theorem dX6_prove_11 : decode cX6_prove 11 = .ok (.iconst (-1), 1) := by decide +kernel
theorem dX6_prove_12 : decode cX6_prove 12 = .ok (.ireturn, 1) := by decide +kernel
theorem dX6_prove_13 : decode cX6_prove 13 = .ok (.aload_n 0, 1) := by decide +kernel
theorem dX6_prove_14 : decode cX6_prove 14 = .ok (.getfield 32, 3) := by decide +kernel
theorem dX6_prove_17 : decode cX6_prove 17 = .ok (.iconst 0, 1) := by decide +kernel
theorem dX6_prove_18 : decode cX6_prove 18 = .ok (.putfield 94, 3) := by decide +kernel
theorem dX6_prove_21 : decode cX6_prove 21 = .ok (.iconst 0, 1) := by decide +kernel
theorem dX6_prove_22 : decode cX6_prove 22 = .ok (.istore_n 2, 1) := by decide +kernel
theorem dX6_prove_23 : decode cX6_prove 23 = .ok (.iload_n 2, 1) := by decide +kernel
theorem dX6_prove_24 : decode cX6_prove 24 = .ok (.bipush 24, 2) := by decide +kernel
theorem dX6_prove_26 : decode cX6_prove 26 = .ok (.if_icmp .ge 75, 3) := by decide +kernel
theorem dX6_prove_29 : decode cX6_prove 29 = .ok (.aload_n 0, 1) := by decide +kernel
theorem dX6_prove_30 : decode cX6_prove 30 = .ok (.getfield 10, 3) := by decide +kernel
theorem dX6_prove_33 : decode cX6_prove 33 = .ok (.getfield 99, 3) := by decide +kernel
theorem dX6_prove_36 : decode cX6_prove 36 = .ok (.iload_n 2, 1) := by decide +kernel
theorem dX6_prove_37 : decode cX6_prove 37 = .ok (.iaload, 1) := by decide +kernel
theorem dX6_prove_38 : decode cX6_prove 38 = .ok (.bipush (-9), 2) := by decide +kernel
theorem dX6_prove_40 : decode cX6_prove 40 = .ok (.if_icmp .eq 55, 3) := by decide +kernel
theorem dX6_prove_43 : decode cX6_prove 43 = .ok (.aload_n 0, 1) := by decide +kernel
theorem dX6_prove_44 : decode cX6_prove 44 = .ok (.getfield 10, 3) := by decide +kernel
theorem dX6_prove_47 : decode cX6_prove 47 = .ok (.aload_n 0, 1) := by decide +kernel
theorem dX6_prove_48 : decode cX6_prove 48 = .ok (.getfield 10, 3) := by decide +kernel
theorem dX6_prove_51 : decode cX6_prove 51 = .ok (.getfield 123, 3) := by decide +kernel
theorem dX6_prove_54 : decode cX6_prove 54 = .ok (.iload_n 1, 1) := by decide +kernel
theorem dX6_prove_55 : decode cX6_prove 55 = .ok (.iaload, 1) := by decide +kernel
theorem dX6_prove_56 : decode cX6_prove 56 = .ok (.iload_n 2, 1) := by decide +kernel
theorem dX6_prove_57 : decode cX6_prove 57 = .ok (.aload_n 0, 1) := by decide +kernel
theorem dX6_prove_58 : decode cX6_prove 58 = .ok (.getfield 10, 3) := by decide +kernel
theorem dX6_prove_61 : decode cX6_prove 61 = .ok (.getfield 99, 3) := by decide +kernel
theorem dX6_prove_64 : decode cX6_prove 64 = .ok (.invokevirtual 133, 3) := by decide +kernel
theorem dX6_prove_67 : decode cX6_prove 67 = .ok (.istore_n 3, 1) := by decide +kernel
theorem dX6_prove_68 : decode cX6_prove 68 = .ok (.aload_n 0, 1) := by decide +kernel
theorem dX6_prove_69 : decode cX6_prove 69 = .ok (.getfield 32, 3) := by decide +kernel
theorem dX6_prove_72 : decode cX6_prove 72 = .ok (.iload_n 2, 1) := by decide +kernel
theorem dX6_prove_73 : decode cX6_prove 73 = .ok (.iload_n 3, 1) := by decide +kernel
theorem dX6_prove_74 : decode cX6_prove 74 = .ok (.iload_n 3, 1) := by decide +kernel
theorem dX6_prove_75 : decode cX6_prove 75 = .ok (.aload_n 0, 1) := by decide +kernel
theorem dX6_prove_76 : decode cX6_prove 76 = .ok (.getfield 10, 3) := by decide +kernel
theorem dX6_prove_79 : decode cX6_prove 79 = .ok (.getfield 99, 3) := by decide +kernel
theorem dX6_prove_82 : decode cX6_prove 82 = .ok (.iload_n 2, 1) := by decide +kernel
theorem dX6_prove_83 : decode cX6_prove 83 = .ok (.iaload, 1) := by decide +kernel
theorem dX6_prove_84 : decode cX6_prove 84 = .ok (.if_icmp .ne 7, 3) := by decide +kernel
theorem dX6_prove_87 : decode cX6_prove 87 = .ok (.iconst 1, 1) := by decide +kernel
theorem dX6_prove_88 : decode cX6_prove 88 = .ok (.goto 4, 3) := by decide +kernel
theorem dX6_prove_91 : decode cX6_prove 91 = .ok (.iconst 0, 1) := by decide +kernel
theorem dX6_prove_92 : decode cX6_prove 92 = .ok (.invokevirtual 182, 3) := by decide +kernel
theorem dX6_prove_95 : decode cX6_prove 95 = .ok (.iinc 2 1, 3) := by decide +kernel
theorem dX6_prove_98 : decode cX6_prove 98 = .ok (.goto (-75), 3) := by decide +kernel
theorem dX6_prove_101 : decode cX6_prove 101 = .ok (.aload_n 0, 1) := by decide +kernel
theorem dX6_prove_102 : decode cX6_prove 102 = .ok (.getfield 32, 3) := by decide +kernel
theorem dX6_prove_105 : decode cX6_prove 105 = .ok (.getfield 94, 3) := by decide +kernel
theorem dX6_prove_108 : decode cX6_prove 108 = .ok (.ireturn, 1) := by decide +kernel
theorem dX6_row_0 : decode cX6_row 0 = .ok (.aload_n 0, 1) := by decide +kernel
theorem dX6_row_1 : decode cX6_row 1 = .ok (.getfield 32, 3) := by decide +kernel
theorem dX6_row_4 : decode cX6_row 4 = .ok (.iload_n 1, 1) := by decide +kernel
theorem dX6_row_5 : decode cX6_row 5 = .ok (.iload_n 2, 1) := by decide +kernel
theorem dX6_row_6 : decode cX6_row 6 = .ok (.invokevirtual 186, 3) := by decide +kernel
theorem dX6_row_9 : decode cX6_row 9 = .ok (.ifCond .eq 19, 3) := by decide +kernel
theorem dX6_row_12 : decode cX6_row 12 = .ok (.aload_n 0, 1) := by decide +kernel
theorem dX6_row_13 : decode cX6_row 13 = .ok (.getfield 32, 3) := by decide +kernel
theorem dX6_row_16 : decode cX6_row 16 = .ok (.getfield 189, 3) := by decide +kernel
theorem dX6_row_19 : decode cX6_row 19 = .ok (.iload_n 1, 1) := by decide +kernel
theorem dX6_row_20 : decode cX6_row 20 = .ok (.iconst 3, 1) := by decide +kernel
theorem dX6_row_21 : decode cX6_row 21 = .ok (.imul, 1) := by decide +kernel
theorem dX6_row_22 : decode cX6_row 22 = .ok (.iload_n 2, 1) := by decide +kernel
theorem dX6_row_23 : decode cX6_row 23 = .ok (.iadd, 1) := by decide +kernel
theorem dX6_row_24 : decode cX6_row 24 = .ok (.iaload, 1) := by decide +kernel
theorem dX6_row_25 : decode cX6_row 25 = .ok (.goto 5, 3) := by decide +kernel
theorem dX6_row_28 : decode cX6_row 28 = .ok (.bipush (-99), 2) := by decide +kernel
theorem dX6_row_30 : decode cX6_row 30 = .ok (.ireturn, 1) := by decide +kernel
theorem dX6_alterRow_0 : decode cX6_alterRow 0 = .ok (.aload_n 0, 1) := by decide +kernel
theorem dX6_alterRow_1 : decode cX6_alterRow 1 = .ok (.getfield 32, 3) := by decide +kernel
theorem dX6_alterRow_4 : decode cX6_alterRow 4 = .ok (.iload_n 1, 1) := by decide +kernel
theorem dX6_alterRow_5 : decode cX6_alterRow 5 = .ok (.iload_n 2, 1) := by decide +kernel
theorem dX6_alterRow_6 : decode cX6_alterRow 6 = .ok (.invokevirtual 186, 3) := by decide +kernel
theorem dX6_alterRow_9 : decode cX6_alterRow 9 = .ok (.ifCond .ne 6, 3) := by decide +kernel
theorem dX6_alterRow_12 : decode cX6_alterRow 12 = .ok (.bipush (-99), 2) := by decide +kernel
theorem dX6_alterRow_14 : decode cX6_alterRow 14 = .ok (.ireturn, 1) := by decide +kernel
theorem dX6_alterRow_15 : decode cX6_alterRow 15 = .ok (.aload_n 0, 1) := by decide +kernel
theorem dX6_alterRow_16 : decode cX6_alterRow 16 = .ok (.getfield 32, 3) := by decide +kernel
theorem dX6_alterRow_19 : decode cX6_alterRow 19 = .ok (.getfield 189, 3) := by decide +kernel
theorem dX6_alterRow_22 : decode cX6_alterRow 22 = .ok (.iload_n 1, 1) := by decide +kernel
theorem dX6_alterRow_23 : decode cX6_alterRow 23 = .ok (.iconst 3, 1) := by decide +kernel
theorem dX6_alterRow_24 : decode cX6_alterRow 24 = .ok (.imul, 1) := by decide +kernel
theorem dX6_alterRow_25 : decode cX6_alterRow 25 = .ok (.iload_n 2, 1) := by decide +kernel
theorem dX6_alterRow_26 : decode cX6_alterRow 26 = .ok (.iadd, 1) := by decide +kernel
theorem dX6_alterRow_27 : decode cX6_alterRow 27 = .ok (.iaload, 1) := by decide +kernel
theorem dX6_alterRow_28 : decode cX6_alterRow 28 = .ok (.istore 4, 2) := by decide +kernel
theorem dX6_alterRow_30 : decode cX6_alterRow 30 = .ok (.aload_n 0, 1) := by decide +kernel
theorem dX6_alterRow_31 : decode cX6_alterRow 31 = .ok (.getfield 32, 3) := by decide +kernel
theorem dX6_alterRow_34 : decode cX6_alterRow 34 = .ok (.getfield 189, 3) := by decide +kernel
theorem dX6_alterRow_37 : decode cX6_alterRow 37 = .ok (.iload_n 1, 1) := by decide +kernel
theorem dX6_alterRow_38 : decode cX6_alterRow 38 = .ok (.iconst 3, 1) := by decide +kernel
theorem dX6_alterRow_39 : decode cX6_alterRow 39 = .ok (.imul, 1) := by decide +kernel
theorem dX6_alterRow_40 : decode cX6_alterRow 40 = .ok (.iload_n 2, 1) := by decide +kernel
theorem dX6_alterRow_41 : decode cX6_alterRow 41 = .ok (.iadd, 1) := by decide +kernel
theorem dX6_alterRow_42 : decode cX6_alterRow 42 = .ok (.iload_n 3, 1) := by decide +kernel
theorem dX6_alterRow_43 : decode cX6_alterRow 43 = .ok (.iastore, 1) := by decide +kernel
theorem dX6_alterRow_44 : decode cX6_alterRow 44 = .ok (.iload 4, 2) := by decide +kernel
theorem dX6_alterRow_46 : decode cX6_alterRow 46 = .ok (.ireturn, 1) := by decide +kernel
theorem dX6_judge_0 : decode cX6_judge 0 = .ok (.aload_n 0, 1) := by decide +kernel
theorem dX6_judge_1 : decode cX6_judge 1 = .ok (.getfield 10, 3) := by decide +kernel
theorem dX6_judge_4 : decode cX6_judge 4 = .ok (.iload_n 1, 1) := by decide +kernel
theorem dX6_judge_5 : decode cX6_judge 5 = .ok (.invokevirtual 119, 3) := by decide +kernel
theorem dX6_judge_8 : decode cX6_judge 8 = .ok (.ifCond .ne 5, 3) := by decide +kernel
theorem dX6_judge_11 : decode cX6_judge 11 = .ok (.iconst (-1), 1) := by decide +kernel
theorem dX6_judge_12 : decode cX6_judge 12 = .ok (.ireturn, 1) := by decide +kernel
theorem dX6_judge_13 : decode cX6_judge 13 = .ok (.iconst 0, 1) := by decide +kernel
theorem dX6_judge_14 : decode cX6_judge 14 = .ok (.istore_n 2, 1) := by decide +kernel
theorem dX6_judge_15 : decode cX6_judge 15 = .ok (.iconst 0, 1) := by decide +kernel
theorem dX6_judge_16 : decode cX6_judge 16 = .ok (.istore_n 3, 1) := by decide +kernel
theorem dX6_judge_17 : decode cX6_judge 17 = .ok (.iload_n 3, 1) := by decide +kernel
theorem dX6_judge_18 : decode cX6_judge 18 = .ok (.bipush 24, 2) := by decide +kernel
theorem dX6_judge_20 : decode cX6_judge 20 = .ok (.if_icmp .ge 100, 3) := by decide +kernel
theorem dX6_judge_23 : decode cX6_judge 23 = .ok (.aload_n 0, 1) := by decide +kernel
theorem dX6_judge_24 : decode cX6_judge 24 = .ok (.getfield 10, 3) := by decide +kernel
theorem dX6_judge_27 : decode cX6_judge 27 = .ok (.getfield 99, 3) := by decide +kernel
theorem dX6_judge_30 : decode cX6_judge 30 = .ok (.iload_n 3, 1) := by decide +kernel
theorem dX6_judge_31 : decode cX6_judge 31 = .ok (.iaload, 1) := by decide +kernel
theorem dX6_judge_32 : decode cX6_judge 32 = .ok (.bipush (-9), 2) := by decide +kernel
theorem dX6_judge_34 : decode cX6_judge 34 = .ok (.if_icmp .eq 80, 3) := by decide +kernel
theorem dX6_judge_37 : decode cX6_judge 37 = .ok (.aload_n 0, 1) := by decide +kernel
theorem dX6_judge_38 : decode cX6_judge 38 = .ok (.getfield 10, 3) := by decide +kernel
theorem dX6_judge_41 : decode cX6_judge 41 = .ok (.aload_n 0, 1) := by decide +kernel
theorem dX6_judge_42 : decode cX6_judge 42 = .ok (.getfield 10, 3) := by decide +kernel
theorem dX6_judge_45 : decode cX6_judge 45 = .ok (.getfield 123, 3) := by decide +kernel
theorem dX6_judge_48 : decode cX6_judge 48 = .ok (.iload_n 1, 1) := by decide +kernel
theorem dX6_judge_49 : decode cX6_judge 49 = .ok (.iaload, 1) := by decide +kernel
theorem dX6_judge_50 : decode cX6_judge 50 = .ok (.iload_n 3, 1) := by decide +kernel
theorem dX6_judge_51 : decode cX6_judge 51 = .ok (.aload_n 0, 1) := by decide +kernel
theorem dX6_judge_52 : decode cX6_judge 52 = .ok (.getfield 10, 3) := by decide +kernel
theorem dX6_judge_55 : decode cX6_judge 55 = .ok (.getfield 99, 3) := by decide +kernel
theorem dX6_judge_58 : decode cX6_judge 58 = .ok (.invokevirtual 133, 3) := by decide +kernel
theorem dX6_judge_61 : decode cX6_judge 61 = .ok (.istore 4, 2) := by decide +kernel
theorem dX6_judge_63 : decode cX6_judge 63 = .ok (.iload_n 2, 1) := by decide +kernel
theorem dX6_judge_64 : decode cX6_judge 64 = .ok (.aload_n 0, 1) := by decide +kernel
theorem dX6_judge_65 : decode cX6_judge 65 = .ok (.getfield 32, 3) := by decide +kernel
theorem dX6_judge_68 : decode cX6_judge 68 = .ok (.getfield 94, 3) := by decide +kernel
theorem dX6_judge_71 : decode cX6_judge 71 = .ok (.if_icmp .ge 40, 3) := by decide +kernel
theorem dX6_judge_74 : decode cX6_judge 74 = .ok (.aload_n 0, 1) := by decide +kernel
theorem dX6_judge_75 : decode cX6_judge 75 = .ok (.getfield 32, 3) := by decide +kernel
theorem dX6_judge_78 : decode cX6_judge 78 = .ok (.iload_n 2, 1) := by decide +kernel
theorem dX6_judge_79 : decode cX6_judge 79 = .ok (.iload_n 3, 1) := by decide +kernel
theorem dX6_judge_80 : decode cX6_judge 80 = .ok (.iload 4, 2) := by decide +kernel
theorem dX6_judge_82 : decode cX6_judge 82 = .ok (.iload 4, 2) := by decide +kernel
theorem dX6_judge_84 : decode cX6_judge 84 = .ok (.aload_n 0, 1) := by decide +kernel
theorem dX6_judge_85 : decode cX6_judge 85 = .ok (.getfield 10, 3) := by decide +kernel
theorem dX6_judge_88 : decode cX6_judge 88 = .ok (.getfield 99, 3) := by decide +kernel
theorem dX6_judge_91 : decode cX6_judge 91 = .ok (.iload_n 3, 1) := by decide +kernel
theorem dX6_judge_92 : decode cX6_judge 92 = .ok (.iaload, 1) := by decide +kernel
theorem dX6_judge_93 : decode cX6_judge 93 = .ok (.if_icmp .ne 7, 3) := by decide +kernel
theorem dX6_judge_96 : decode cX6_judge 96 = .ok (.iconst 1, 1) := by decide +kernel
theorem dX6_judge_97 : decode cX6_judge 97 = .ok (.goto 4, 3) := by decide +kernel
theorem dX6_judge_100 : decode cX6_judge 100 = .ok (.iconst 0, 1) := by decide +kernel
theorem dX6_judge_101 : decode cX6_judge 101 = .ok (.invokevirtual 192, 3) := by decide +kernel
theorem dX6_judge_104 : decode cX6_judge 104 = .ok (.ifCond .ne 7, 3) := by decide +kernel
theorem dX6_judge_107 : decode cX6_judge 107 = .ok (.iload_n 2, 1) := by decide +kernel
theorem dX6_judge_108 : decode cX6_judge 108 = .ok (.iconst 1, 1) := by decide +kernel
theorem dX6_judge_109 : decode cX6_judge 109 = .ok (.iadd, 1) := by decide +kernel
theorem dX6_judge_110 : decode cX6_judge 110 = .ok (.ireturn, 1) := by decide +kernel
theorem dX6_judge_111 : decode cX6_judge 111 = .ok (.iinc 2 1, 3) := by decide +kernel
theorem dX6_judge_114 : decode cX6_judge 114 = .ok (.iinc 3 1, 3) := by decide +kernel
theorem dX6_judge_117 : decode cX6_judge 117 = .ok (.goto (-100), 3) := by decide +kernel
theorem dX6_judge_120 : decode cX6_judge 120 = .ok (.aload_n 0, 1) := by decide +kernel
theorem dX6_judge_121 : decode cX6_judge 121 = .ok (.getfield 32, 3) := by decide +kernel
theorem dX6_judge_124 : decode cX6_judge 124 = .ok (.getfield 94, 3) := by decide +kernel
theorem dX6_judge_127 : decode cX6_judge 127 = .ok (.iload_n 2, 1) := by decide +kernel
theorem dX6_judge_128 : decode cX6_judge 128 = .ok (.if_icmp .le 7, 3) := by decide +kernel
theorem dX6_judge_131 : decode cX6_judge 131 = .ok (.iload_n 2, 1) := by decide +kernel
theorem dX6_judge_132 : decode cX6_judge 132 = .ok (.iconst 1, 1) := by decide +kernel
theorem dX6_judge_133 : decode cX6_judge 133 = .ok (.iadd, 1) := by decide +kernel
theorem dX6_judge_134 : decode cX6_judge 134 = .ok (.ireturn, 1) := by decide +kernel
theorem dX6_judge_135 : decode cX6_judge 135 = .ok (.aload_n 0, 1) := by decide +kernel
theorem dX6_judge_136 : decode cX6_judge 136 = .ok (.getfield 32, 3) := by decide +kernel
theorem dX6_judge_139 : decode cX6_judge 139 = .ok (.getfield 94, 3) := by decide +kernel
theorem dX6_judge_142 : decode cX6_judge 142 = .ok (.iload_n 2, 1) := by decide +kernel
theorem dX6_judge_143 : decode cX6_judge 143 = .ok (.if_icmp .ge 9, 3) := by decide +kernel
theorem dX6_judge_146 : decode cX6_judge 146 = .ok (.sipush 222, 3) := by decide +kernel
theorem dX6_judge_149 : decode cX6_judge 149 = .ok (.goto 4, 3) := by decide +kernel
theorem dX6_judge_152 : decode cX6_judge 152 = .ok (.iconst 0, 1) := by decide +kernel
theorem dX6_judge_153 : decode cX6_judge 153 = .ok (.ireturn, 1) := by decide +kernel
theorem dX6_years_0 : decode cX6_years 0 = .ok (.iload_n 1, 1) := by decide +kernel
theorem dX6_years_1 : decode cX6_years 1 = .ok (.iconst 0, 1) := by decide +kernel
theorem dX6_years_2 : decode cX6_years 2 = .ok (.iconst 3, 1) := by decide +kernel
theorem dX6_years_3 : decode cX6_years 3 = .ok (.invokestatic 75, 3) := by decide +kernel
theorem dX6_years_6 : decode cX6_years 6 = .ok (.ifCond .ne 26, 3) := by decide +kernel
theorem dX6_years_9 : decode cX6_years 9 = .ok (.iload_n 3, 1) := by decide +kernel
theorem dX6_years_10 : decode cX6_years 10 = .ok (.iconst 0, 1) := by decide +kernel
theorem dX6_years_11 : decode cX6_years 11 = .ok (.bipush 23, 2) := by decide +kernel
theorem dX6_years_13 : decode cX6_years 13 = .ok (.invokestatic 75, 3) := by decide +kernel
theorem dX6_years_16 : decode cX6_years 16 = .ok (.ifCond .ne 16, 3) := by decide +kernel
theorem dX6_years_19 : decode cX6_years 19 = .ok (.iload 4, 2) := by decide +kernel
theorem dX6_years_21 : decode cX6_years 21 = .ok (.iconst 0, 1) := by decide +kernel
theorem dX6_years_22 : decode cX6_years 22 = .ok (.bipush 24, 2) := by decide +kernel
theorem dX6_years_24 : decode cX6_years 24 = .ok (.iload_n 3, 1) := by decide +kernel
theorem dX6_years_25 : decode cX6_years 25 = .ok (.isub, 1) := by decide +kernel
theorem dX6_years_26 : decode cX6_years 26 = .ok (.invokestatic 75, 3) := by decide +kernel
theorem dX6_years_29 : decode cX6_years 29 = .ok (.ifCond .eq 5, 3) := by decide +kernel
theorem dX6_years_32 : decode cX6_years 32 = .ok (.iconst (-1), 1) := by decide +kernel
theorem dX6_years_33 : decode cX6_years 33 = .ok (.ireturn, 1) := by decide +kernel
theorem dX6_years_34 : decode cX6_years 34 = .ok (.aload_n 0, 1) := by decide +kernel
theorem dX6_years_35 : decode cX6_years 35 = .ok (.getfield 39, 3) := by decide +kernel
theorem dX6_years_38 : decode cX6_years 38 = .ok (.getfield 196, 3) := by decide +kernel
theorem dX6_years_41 : decode cX6_years 41 = .ok (.iload_n 1, 1) := by decide +kernel
theorem dX6_years_42 : decode cX6_years 42 = .ok (.iaload, 1) := by decide +kernel
theorem dX6_years_43 : decode cX6_years 43 = .ok (.ifCond .ge 6, 3) := by decide +kernel
theorem dX6_years_46 : decode cX6_years 46 = .ok (.bipush (-11), 2) := by decide +kernel
theorem dX6_years_48 : decode cX6_years 48 = .ok (.ireturn, 1) := by decide +kernel
theorem dX6_years_49 : decode cX6_years 49 = .ok (.aload_n 0, 1) := by decide +kernel
theorem dX6_years_50 : decode cX6_years 50 = .ok (.getfield 39, 3) := by decide +kernel
theorem dX6_years_53 : decode cX6_years 53 = .ok (.getfield 196, 3) := by decide +kernel
theorem dX6_years_56 : decode cX6_years 56 = .ok (.iload_n 1, 1) := by decide +kernel
theorem dX6_years_57 : decode cX6_years 57 = .ok (.iaload, 1) := by decide +kernel
theorem dX6_years_58 : decode cX6_years 58 = .ok (.ifCond .eq 6, 3) := by decide +kernel
theorem dX6_years_61 : decode cX6_years 61 = .ok (.bipush (-13), 2) := by decide +kernel
theorem dX6_years_63 : decode cX6_years 63 = .ok (.ireturn, 1) := by decide +kernel
theorem dX6_years_64 : decode cX6_years 64 = .ok (.iload_n 2, 1) := by decide +kernel
theorem dX6_years_65 : decode cX6_years 65 = .ok (.iconst 0, 1) := by decide +kernel
theorem dX6_years_66 : decode cX6_years 66 = .ok (.aload_n 0, 1) := by decide +kernel
theorem dX6_years_67 : decode cX6_years 67 = .ok (.getfield 39, 3) := by decide +kernel
theorem dX6_years_70 : decode cX6_years 70 = .ok (.getfield 199, 3) := by decide +kernel
theorem dX6_years_73 : decode cX6_years 73 = .ok (.iload_n 1, 1) := by decide +kernel
theorem dX6_years_74 : decode cX6_years 74 = .ok (.iaload, 1) := by decide +kernel
theorem dX6_years_75 : decode cX6_years 75 = .ok (.iload 4, 2) := by decide +kernel
theorem dX6_years_77 : decode cX6_years 77 = .ok (.isub, 1) := by decide +kernel
theorem dX6_years_78 : decode cX6_years 78 = .ok (.invokestatic 75, 3) := by decide +kernel
theorem dX6_years_81 : decode cX6_years 81 = .ok (.ifCond .eq 6, 3) := by decide +kernel
theorem dX6_years_84 : decode cX6_years 84 = .ok (.bipush (-12), 2) := by decide +kernel
theorem dX6_years_86 : decode cX6_years 86 = .ok (.ireturn, 1) := by decide +kernel
theorem dX6_years_87 : decode cX6_years 87 = .ok (.iconst 0, 1) := by decide +kernel
theorem dX6_years_88 : decode cX6_years 88 = .ok (.istore 5, 2) := by decide +kernel
theorem dX6_years_90 : decode cX6_years 90 = .ok (.iconst 0, 1) := by decide +kernel
theorem dX6_years_91 : decode cX6_years 91 = .ok (.istore 6, 2) := by decide +kernel
theorem dX6_years_93 : decode cX6_years 93 = .ok (.iload 6, 2) := by decide +kernel
theorem dX6_years_95 : decode cX6_years 95 = .ok (.iload 4, 2) := by decide +kernel
theorem dX6_years_97 : decode cX6_years 97 = .ok (.if_icmp .ge 78, 3) := by decide +kernel
theorem dX6_years_100 : decode cX6_years 100 = .ok (.aload_n 0, 1) := by decide +kernel
theorem dX6_years_101 : decode cX6_years 101 = .ok (.getfield 39, 3) := by decide +kernel
theorem dX6_years_104 : decode cX6_years 104 = .ok (.getfield 202, 3) := by decide +kernel
theorem dX6_years_107 : decode cX6_years 107 = .ok (.iload_n 1, 1) := by decide +kernel
theorem dX6_years_108 : decode cX6_years 108 = .ok (.bipush 40, 2) := by decide +kernel
theorem dX6_years_110 : decode cX6_years 110 = .ok (.imul, 1) := by decide +kernel
theorem dX6_years_111 : decode cX6_years 111 = .ok (.iload_n 2, 1) := by decide +kernel
theorem dX6_years_112 : decode cX6_years 112 = .ok (.iadd, 1) := by decide +kernel
theorem dX6_years_113 : decode cX6_years 113 = .ok (.iload 6, 2) := by decide +kernel
theorem dX6_years_115 : decode cX6_years 115 = .ok (.iadd, 1) := by decide +kernel
theorem dX6_years_116 : decode cX6_years 116 = .ok (.laload, 1) := by decide +kernel
theorem dX6_years_117 : decode cX6_years 117 = .ok (.l2i, 1) := by decide +kernel
theorem dX6_years_118 : decode cX6_years 118 = .ok (.istore 7, 2) := by decide +kernel
theorem dX6_years_120 : decode cX6_years 120 = .ok (.iload 7, 2) := by decide +kernel
theorem dX6_years_122 : decode cX6_years 122 = .ok (.iconst 0, 1) := by decide +kernel
theorem dX6_years_123 : decode cX6_years 123 = .ok (.bipush 9, 2) := by decide +kernel
theorem dX6_years_125 : decode cX6_years 125 = .ok (.invokestatic 75, 3) := by decide +kernel
theorem dX6_years_128 : decode cX6_years 128 = .ok (.istore 8, 2) := by decide +kernel
theorem dX6_years_130 : decode cX6_years 130 = .ok (.aload_n 0, 1) := by decide +kernel
theorem dX6_years_131 : decode cX6_years 131 = .ok (.getfield 10, 3) := by decide +kernel
theorem dX6_years_134 : decode cX6_years 134 = .ok (.getfield 99, 3) := by decide +kernel
theorem dX6_years_137 : decode cX6_years 137 = .ok (.iload_n 3, 1) := by decide +kernel
theorem dX6_years_138 : decode cX6_years 138 = .ok (.iload 6, 2) := by decide +kernel
theorem dX6_years_140 : decode cX6_years 140 = .ok (.iadd, 1) := by decide +kernel
theorem dX6_years_141 : decode cX6_years 141 = .ok (.iload 8, 2) := by decide +kernel
theorem dX6_years_143 : decode cX6_years 143 = .ok (.ifCond .eq 8, 3) := by decide +kernel
theorem dX6_years_146 : decode cX6_years 146 = .ok (.bipush (-9), 2) := by decide +kernel
theorem dX6_years_148 : decode cX6_years 148 = .ok (.goto 5, 3) := by decide +kernel
theorem dX6_years_151 : decode cX6_years 151 = .ok (.iload 7, 2) := by decide +kernel
theorem dX6_years_153 : decode cX6_years 153 = .ok (.iastore, 1) := by decide +kernel
theorem dX6_years_154 : decode cX6_years 154 = .ok (.iload 5, 2) := by decide +kernel
theorem dX6_years_156 : decode cX6_years 156 = .ok (.iload 8, 2) := by decide +kernel
theorem dX6_years_158 : decode cX6_years 158 = .ok (.ifCond .eq 7, 3) := by decide +kernel
theorem dX6_years_161 : decode cX6_years 161 = .ok (.iconst 0, 1) := by decide +kernel
theorem dX6_years_162 : decode cX6_years 162 = .ok (.goto 4, 3) := by decide +kernel
theorem dX6_years_165 : decode cX6_years 165 = .ok (.iconst 1, 1) := by decide +kernel
theorem dX6_years_166 : decode cX6_years 166 = .ok (.iadd, 1) := by decide +kernel
theorem dX6_years_167 : decode cX6_years 167 = .ok (.istore 5, 2) := by decide +kernel
theorem dX6_years_169 : decode cX6_years 169 = .ok (.iinc 6 1, 3) := by decide +kernel
theorem dX6_years_172 : decode cX6_years 172 = .ok (.goto (-79), 3) := by decide +kernel
theorem dX6_years_175 : decode cX6_years 175 = .ok (.iload 5, 2) := by decide +kernel
theorem dX6_years_177 : decode cX6_years 177 = .ok (.ireturn, 1) := by decide +kernel
theorem dX6_sheet_0 : decode cX6_sheet 0 = .ok (.iload_n 1, 1) := by decide +kernel
theorem dX6_sheet_1 : decode cX6_sheet 1 = .ok (.iconst 0, 1) := by decide +kernel
theorem dX6_sheet_2 : decode cX6_sheet 2 = .ok (.iconst 3, 1) := by decide +kernel
theorem dX6_sheet_3 : decode cX6_sheet 3 = .ok (.invokestatic 75, 3) := by decide +kernel
theorem dX6_sheet_6 : decode cX6_sheet 6 = .ok (.ifCond .ne 22, 3) := by decide +kernel
theorem dX6_sheet_9 : decode cX6_sheet 9 = .ok (.iload_n 2, 1) := by decide +kernel
theorem dX6_sheet_10 : decode cX6_sheet 10 = .ok (.iconst (-1), 1) := by decide +kernel
theorem dX6_sheet_11 : decode cX6_sheet 11 = .ok (.iconst 3, 1) := by decide +kernel
theorem dX6_sheet_12 : decode cX6_sheet 12 = .ok (.invokestatic 75, 3) := by decide +kernel
theorem dX6_sheet_15 : decode cX6_sheet 15 = .ok (.ifCond .ne 13, 3) := by decide +kernel
theorem dX6_sheet_18 : decode cX6_sheet 18 = .ok (.iload_n 2, 1) := by decide +kernel
theorem dX6_sheet_19 : decode cX6_sheet 19 = .ok (.ifCond .lt 11, 3) := by decide +kernel
theorem dX6_sheet_22 : decode cX6_sheet 22 = .ok (.iload_n 3, 1) := by decide +kernel
theorem dX6_sheet_23 : decode cX6_sheet 23 = .ok (.bipush 40, 2) := by decide +kernel
theorem dX6_sheet_25 : decode cX6_sheet 25 = .ok (.if_icmp .le 5, 3) := by decide +kernel
theorem dX6_sheet_28 : decode cX6_sheet 28 = .ok (.iconst (-1), 1) := by decide +kernel
theorem dX6_sheet_29 : decode cX6_sheet 29 = .ok (.ireturn, 1) := by decide +kernel
theorem dX6_sheet_30 : decode cX6_sheet 30 = .ok (.iload_n 2, 1) := by decide +kernel
theorem dX6_sheet_31 : decode cX6_sheet 31 = .ok (.ifCond .lt 10, 3) := by decide +kernel
theorem dX6_sheet_34 : decode cX6_sheet 34 = .ok (.iload_n 3, 1) := by decide +kernel
theorem dX6_sheet_35 : decode cX6_sheet 35 = .ok (.ifCond .ge 6, 3) := by decide +kernel
theorem dX6_sheet_38 : decode cX6_sheet 38 = .ok (.bipush (-14), 2) := by decide +kernel
theorem dX6_sheet_40 : decode cX6_sheet 40 = .ok (.ireturn, 1) := by decide +kernel
theorem dX6_sheet_41 : decode cX6_sheet 41 = .ok (.aload_n 0, 1) := by decide +kernel
theorem dX6_sheet_42 : decode cX6_sheet 42 = .ok (.getfield 39, 3) := by decide +kernel
theorem dX6_sheet_45 : decode cX6_sheet 45 = .ok (.iload_n 1, 1) := by decide +kernel
theorem dX6_sheet_46 : decode cX6_sheet 46 = .ok (.iload_n 2, 1) := by decide +kernel
theorem dX6_sheet_47 : decode cX6_sheet 47 = .ok (.iload_n 2, 1) := by decide +kernel
theorem dX6_sheet_48 : decode cX6_sheet 48 = .ok (.ifCond .ge 7, 3) := by decide +kernel
theorem dX6_sheet_51 : decode cX6_sheet 51 = .ok (.iconst 0, 1) := by decide +kernel
theorem dX6_sheet_52 : decode cX6_sheet 52 = .ok (.goto 4, 3) := by decide +kernel
theorem dX6_sheet_55 : decode cX6_sheet 55 = .ok (.iload_n 3, 1) := by decide +kernel
theorem dX6_sheet_56 : decode cX6_sheet 56 = .ok (.invokevirtual 206, 3) := by decide +kernel
theorem dX6_sheet_59 : decode cX6_sheet 59 = .ok (.iconst 1, 1) := by decide +kernel
theorem dX6_sheet_60 : decode cX6_sheet 60 = .ok (.ireturn, 1) := by decide +kernel
theorem dX6_put_0 : decode cX6_put 0 = .ok (.iload_n 1, 1) := by decide +kernel
theorem dX6_put_1 : decode cX6_put 1 = .ok (.iconst 0, 1) := by decide +kernel
theorem dX6_put_2 : decode cX6_put 2 = .ok (.iconst 3, 1) := by decide +kernel
theorem dX6_put_3 : decode cX6_put 3 = .ok (.invokestatic 75, 3) := by decide +kernel
theorem dX6_put_6 : decode cX6_put 6 = .ok (.ifCond .eq 5, 3) := by decide +kernel
theorem dX6_put_9 : decode cX6_put 9 = .ok (.iconst (-1), 1) := by decide +kernel
theorem dX6_put_10 : decode cX6_put 10 = .ok (.ireturn, 1) := by decide +kernel
theorem dX6_put_11 : decode cX6_put 11 = .ok (.aload_n 0, 1) := by decide +kernel
theorem dX6_put_12 : decode cX6_put 12 = .ok (.getfield 39, 3) := by decide +kernel
theorem dX6_put_15 : decode cX6_put 15 = .ok (.getfield 196, 3) := by decide +kernel
theorem dX6_put_18 : decode cX6_put 18 = .ok (.iload_n 1, 1) := by decide +kernel
theorem dX6_put_19 : decode cX6_put 19 = .ok (.iaload, 1) := by decide +kernel
theorem dX6_put_20 : decode cX6_put 20 = .ok (.ifCond .ge 6, 3) := by decide +kernel
theorem dX6_put_23 : decode cX6_put 23 = .ok (.bipush (-11), 2) := by decide +kernel
theorem dX6_put_25 : decode cX6_put 25 = .ok (.ireturn, 1) := by decide +kernel
theorem dX6_put_26 : decode cX6_put 26 = .ok (.iload_n 2, 1) := by decide +kernel
theorem dX6_put_27 : decode cX6_put 27 = .ok (.iconst 0, 1) := by decide +kernel
theorem dX6_put_28 : decode cX6_put 28 = .ok (.aload_n 0, 1) := by decide +kernel
theorem dX6_put_29 : decode cX6_put 29 = .ok (.getfield 39, 3) := by decide +kernel
theorem dX6_put_32 : decode cX6_put 32 = .ok (.getfield 199, 3) := by decide +kernel
theorem dX6_put_35 : decode cX6_put 35 = .ok (.iload_n 1, 1) := by decide +kernel
theorem dX6_put_36 : decode cX6_put 36 = .ok (.iaload, 1) := by decide +kernel
theorem dX6_put_37 : decode cX6_put 37 = .ok (.iconst 1, 1) := by decide +kernel
theorem dX6_put_38 : decode cX6_put 38 = .ok (.isub, 1) := by decide +kernel
theorem dX6_put_39 : decode cX6_put 39 = .ok (.invokestatic 75, 3) := by decide +kernel
theorem dX6_put_42 : decode cX6_put 42 = .ok (.ifCond .eq 6, 3) := by decide +kernel
theorem dX6_put_45 : decode cX6_put 45 = .ok (.bipush (-12), 2) := by decide +kernel
theorem dX6_put_47 : decode cX6_put 47 = .ok (.ireturn, 1) := by decide +kernel
theorem dX6_put_48 : decode cX6_put 48 = .ok (.aload_n 0, 1) := by decide +kernel
theorem dX6_put_49 : decode cX6_put 49 = .ok (.getfield 39, 3) := by decide +kernel
theorem dX6_put_52 : decode cX6_put 52 = .ok (.getfield 202, 3) := by decide +kernel
theorem dX6_put_55 : decode cX6_put 55 = .ok (.iload_n 1, 1) := by decide +kernel
theorem dX6_put_56 : decode cX6_put 56 = .ok (.bipush 40, 2) := by decide +kernel
theorem dX6_put_58 : decode cX6_put 58 = .ok (.imul, 1) := by decide +kernel
theorem dX6_put_59 : decode cX6_put 59 = .ok (.iload_n 2, 1) := by decide +kernel
theorem dX6_put_60 : decode cX6_put 60 = .ok (.iadd, 1) := by decide +kernel
theorem dX6_put_61 : decode cX6_put 61 = .ok (.iload_n 3, 1) := by decide +kernel
theorem dX6_put_62 : decode cX6_put 62 = .ok (.aload_n 0, 1) := by decide +kernel
theorem dX6_put_63 : decode cX6_put 63 = .ok (.getfield 39, 3) := by decide +kernel
theorem dX6_put_66 : decode cX6_put 66 = .ok (.getfield 196, 3) := by decide +kernel
theorem dX6_put_69 : decode cX6_put 69 = .ok (.iload_n 1, 1) := by decide +kernel
theorem dX6_put_70 : decode cX6_put 70 = .ok (.iaload, 1) := by decide +kernel
theorem dX6_put_71 : decode cX6_put 71 = .ok (.invokestatic 209, 3) := by decide +kernel
theorem dX6_put_74 : decode cX6_put 74 = .ok (.lastore, 1) := by decide +kernel
theorem dX6_put_75 : decode cX6_put 75 = .ok (.iconst 1, 1) := by decide +kernel
theorem dX6_put_76 : decode cX6_put 76 = .ok (.ireturn, 1) := by decide +kernel
theorem dX6_item_0 : decode cX6_item 0 = .ok (.iload_n 1, 1) := by decide +kernel
theorem dX6_item_1 : decode cX6_item 1 = .ok (.iconst 0, 1) := by decide +kernel
theorem dX6_item_2 : decode cX6_item 2 = .ok (.iconst 3, 1) := by decide +kernel
theorem dX6_item_3 : decode cX6_item 3 = .ok (.invokestatic 75, 3) := by decide +kernel
theorem dX6_item_6 : decode cX6_item 6 = .ok (.ifCond .ne 12, 3) := by decide +kernel
theorem dX6_item_9 : decode cX6_item 9 = .ok (.iload_n 2, 1) := by decide +kernel
theorem dX6_item_10 : decode cX6_item 10 = .ok (.iconst 0, 1) := by decide +kernel
theorem dX6_item_11 : decode cX6_item 11 = .ok (.iconst 3, 1) := by decide +kernel
theorem dX6_item_12 : decode cX6_item 12 = .ok (.invokestatic 75, 3) := by decide +kernel
theorem dX6_item_15 : decode cX6_item 15 = .ok (.ifCond .eq 5, 3) := by decide +kernel
theorem dX6_item_18 : decode cX6_item 18 = .ok (.iconst (-1), 1) := by decide +kernel
theorem dX6_item_19 : decode cX6_item 19 = .ok (.ireturn, 1) := by decide +kernel
theorem dX6_item_20 : decode cX6_item 20 = .ok (.aload_n 0, 1) := by decide +kernel
theorem dX6_item_21 : decode cX6_item 21 = .ok (.getfield 39, 3) := by decide +kernel
theorem dX6_item_24 : decode cX6_item 24 = .ok (.getfield 196, 3) := by decide +kernel
theorem dX6_item_27 : decode cX6_item 27 = .ok (.iload_n 1, 1) := by decide +kernel
theorem dX6_item_28 : decode cX6_item 28 = .ok (.iaload, 1) := by decide +kernel
theorem dX6_item_29 : decode cX6_item 29 = .ok (.ifCond .ge 6, 3) := by decide +kernel
theorem dX6_item_32 : decode cX6_item 32 = .ok (.bipush (-11), 2) := by decide +kernel
theorem dX6_item_34 : decode cX6_item 34 = .ok (.ireturn, 1) := by decide +kernel
theorem dX6_item_35 : decode cX6_item 35 = .ok (.aload_n 0, 1) := by decide +kernel
theorem dX6_item_36 : decode cX6_item 36 = .ok (.getfield 39, 3) := by decide +kernel
theorem dX6_item_39 : decode cX6_item 39 = .ok (.getfield 196, 3) := by decide +kernel
theorem dX6_item_42 : decode cX6_item 42 = .ok (.iload_n 1, 1) := by decide +kernel
theorem dX6_item_43 : decode cX6_item 43 = .ok (.iaload, 1) := by decide +kernel
theorem dX6_item_44 : decode cX6_item 44 = .ok (.iload_n 2, 1) := by decide +kernel
theorem dX6_item_45 : decode cX6_item 45 = .ok (.if_icmp .eq 6, 3) := by decide +kernel
theorem dX6_item_48 : decode cX6_item 48 = .ok (.bipush (-13), 2) := by decide +kernel
theorem dX6_item_50 : decode cX6_item 50 = .ok (.ireturn, 1) := by decide +kernel
theorem dX6_item_51 : decode cX6_item 51 = .ok (.iload_n 3, 1) := by decide +kernel
theorem dX6_item_52 : decode cX6_item 52 = .ok (.iconst 0, 1) := by decide +kernel
theorem dX6_item_53 : decode cX6_item 53 = .ok (.aload_n 0, 1) := by decide +kernel
theorem dX6_item_54 : decode cX6_item 54 = .ok (.getfield 39, 3) := by decide +kernel
theorem dX6_item_57 : decode cX6_item 57 = .ok (.getfield 199, 3) := by decide +kernel
theorem dX6_item_60 : decode cX6_item 60 = .ok (.iload_n 1, 1) := by decide +kernel
theorem dX6_item_61 : decode cX6_item 61 = .ok (.iaload, 1) := by decide +kernel
theorem dX6_item_62 : decode cX6_item 62 = .ok (.iconst 1, 1) := by decide +kernel
theorem dX6_item_63 : decode cX6_item 63 = .ok (.isub, 1) := by decide +kernel
theorem dX6_item_64 : decode cX6_item 64 = .ok (.invokestatic 75, 3) := by decide +kernel
theorem dX6_item_67 : decode cX6_item 67 = .ok (.ifCond .eq 6, 3) := by decide +kernel
theorem dX6_item_70 : decode cX6_item 70 = .ok (.bipush (-12), 2) := by decide +kernel
theorem dX6_item_72 : decode cX6_item 72 = .ok (.ireturn, 1) := by decide +kernel
theorem dX6_item_73 : decode cX6_item 73 = .ok (.aload_n 0, 1) := by decide +kernel
theorem dX6_item_74 : decode cX6_item 74 = .ok (.getfield 39, 3) := by decide +kernel
theorem dX6_item_77 : decode cX6_item 77 = .ok (.getfield 202, 3) := by decide +kernel
theorem dX6_item_80 : decode cX6_item 80 = .ok (.iload_n 1, 1) := by decide +kernel
theorem dX6_item_81 : decode cX6_item 81 = .ok (.bipush 40, 2) := by decide +kernel
theorem dX6_item_83 : decode cX6_item 83 = .ok (.imul, 1) := by decide +kernel
theorem dX6_item_84 : decode cX6_item 84 = .ok (.iload_n 3, 1) := by decide +kernel
theorem dX6_item_85 : decode cX6_item 85 = .ok (.iadd, 1) := by decide +kernel
theorem dX6_item_86 : decode cX6_item 86 = .ok (.laload, 1) := by decide +kernel
theorem dX6_item_87 : decode cX6_item 87 = .ok (.l2i, 1) := by decide +kernel
theorem dX6_item_88 : decode cX6_item 88 = .ok (.ireturn, 1) := by decide +kernel
theorem dX6_shelf_0 : decode cX6_shelf 0 = .ok (.iload_n 1, 1) := by decide +kernel
theorem dX6_shelf_1 : decode cX6_shelf 1 = .ok (.iconst 0, 1) := by decide +kernel
theorem dX6_shelf_2 : decode cX6_shelf 2 = .ok (.iconst 3, 1) := by decide +kernel
theorem dX6_shelf_3 : decode cX6_shelf 3 = .ok (.invokestatic 75, 3) := by decide +kernel
theorem dX6_shelf_6 : decode cX6_shelf 6 = .ok (.ifCond .ne 12, 3) := by decide +kernel
theorem dX6_shelf_9 : decode cX6_shelf 9 = .ok (.iload_n 2, 1) := by decide +kernel
theorem dX6_shelf_10 : decode cX6_shelf 10 = .ok (.iconst 0, 1) := by decide +kernel
theorem dX6_shelf_11 : decode cX6_shelf 11 = .ok (.iconst 2, 1) := by decide +kernel
theorem dX6_shelf_12 : decode cX6_shelf 12 = .ok (.invokestatic 75, 3) := by decide +kernel
theorem dX6_shelf_15 : decode cX6_shelf 15 = .ok (.ifCond .eq 5, 3) := by decide +kernel
theorem dX6_shelf_18 : decode cX6_shelf 18 = .ok (.iconst (-1), 1) := by decide +kernel
theorem dX6_shelf_19 : decode cX6_shelf 19 = .ok (.ireturn, 1) := by decide +kernel
theorem dX6_shelf_20 : decode cX6_shelf 20 = .ok (.iload_n 2, 1) := by decide +kernel
theorem dX6_shelf_21 : decode cX6_shelf 21 = .ok (.ifCond .ne 14, 3) := by decide +kernel
theorem dX6_shelf_24 : decode cX6_shelf 24 = .ok (.aload_n 0, 1) := by decide +kernel
theorem dX6_shelf_25 : decode cX6_shelf 25 = .ok (.getfield 10, 3) := by decide +kernel
theorem dX6_shelf_28 : decode cX6_shelf 28 = .ok (.iload_n 3, 1) := by decide +kernel
theorem dX6_shelf_29 : decode cX6_shelf 29 = .ok (.invokevirtual 119, 3) := by decide +kernel
theorem dX6_shelf_32 : decode cX6_shelf 32 = .ok (.ifCond .eq 17, 3) := by decide +kernel
theorem dX6_shelf_35 : decode cX6_shelf 35 = .ok (.iload_n 2, 1) := by decide +kernel
theorem dX6_shelf_36 : decode cX6_shelf 36 = .ok (.iconst 1, 1) := by decide +kernel
theorem dX6_shelf_37 : decode cX6_shelf 37 = .ok (.if_icmp .ne 14, 3) := by decide +kernel
theorem dX6_shelf_40 : decode cX6_shelf 40 = .ok (.iload_n 3, 1) := by decide +kernel
theorem dX6_shelf_41 : decode cX6_shelf 41 = .ok (.iconst 0, 1) := by decide +kernel
theorem dX6_shelf_42 : decode cX6_shelf 42 = .ok (.iconst 3, 1) := by decide +kernel
theorem dX6_shelf_43 : decode cX6_shelf 43 = .ok (.invokestatic 75, 3) := by decide +kernel
theorem dX6_shelf_46 : decode cX6_shelf 46 = .ok (.ifCond .eq 5, 3) := by decide +kernel
theorem dX6_shelf_49 : decode cX6_shelf 49 = .ok (.iconst (-1), 1) := by decide +kernel
theorem dX6_shelf_50 : decode cX6_shelf 50 = .ok (.ireturn, 1) := by decide +kernel
theorem dX6_shelf_51 : decode cX6_shelf 51 = .ok (.iload_n 2, 1) := by decide +kernel
theorem dX6_shelf_52 : decode cX6_shelf 52 = .ok (.ifCond .ne 15, 3) := by decide +kernel
theorem dX6_shelf_55 : decode cX6_shelf 55 = .ok (.aload_n 0, 1) := by decide +kernel
theorem dX6_shelf_56 : decode cX6_shelf 56 = .ok (.getfield 46, 3) := by decide +kernel
theorem dX6_shelf_59 : decode cX6_shelf 59 = .ok (.iload_n 1, 1) := by decide +kernel
theorem dX6_shelf_60 : decode cX6_shelf 60 = .ok (.iload_n 3, 1) := by decide +kernel
theorem dX6_shelf_61 : decode cX6_shelf 61 = .ok (.invokevirtual 213, 3) := by decide +kernel
theorem dX6_shelf_64 : decode cX6_shelf 64 = .ok (.goto 57, 3) := by decide +kernel
theorem dX6_shelf_67 : decode cX6_shelf 67 = .ok (.iload_n 2, 1) := by decide +kernel
theorem dX6_shelf_68 : decode cX6_shelf 68 = .ok (.iconst 1, 1) := by decide +kernel
theorem dX6_shelf_69 : decode cX6_shelf 69 = .ok (.if_icmp .ne 44, 3) := by decide +kernel
theorem dX6_shelf_72 : decode cX6_shelf 72 = .ok (.aload_n 0, 1) := by decide +kernel
theorem dX6_shelf_73 : decode cX6_shelf 73 = .ok (.getfield 39, 3) := by decide +kernel
theorem dX6_shelf_76 : decode cX6_shelf 76 = .ok (.getfield 196, 3) := by decide +kernel
theorem dX6_shelf_79 : decode cX6_shelf 79 = .ok (.iload_n 3, 1) := by decide +kernel
theorem dX6_shelf_80 : decode cX6_shelf 80 = .ok (.iaload, 1) := by decide +kernel
theorem dX6_shelf_81 : decode cX6_shelf 81 = .ok (.ifCond .lt 32, 3) := by decide +kernel
theorem dX6_shelf_84 : decode cX6_shelf 84 = .ok (.aload_n 0, 1) := by decide +kernel
theorem dX6_shelf_85 : decode cX6_shelf 85 = .ok (.getfield 46, 3) := by decide +kernel
theorem dX6_shelf_88 : decode cX6_shelf 88 = .ok (.iload_n 1, 1) := by decide +kernel
theorem dX6_shelf_89 : decode cX6_shelf 89 = .ok (.aload_n 0, 1) := by decide +kernel
theorem dX6_shelf_90 : decode cX6_shelf 90 = .ok (.getfield 39, 3) := by decide +kernel
theorem dX6_shelf_93 : decode cX6_shelf 93 = .ok (.getfield 196, 3) := by decide +kernel
theorem dX6_shelf_96 : decode cX6_shelf 96 = .ok (.iload_n 3, 1) := by decide +kernel
theorem dX6_shelf_97 : decode cX6_shelf 97 = .ok (.iaload, 1) := by decide +kernel
theorem dX6_shelf_98 : decode cX6_shelf 98 = .ok (.aload_n 0, 1) := by decide +kernel
theorem dX6_shelf_99 : decode cX6_shelf 99 = .ok (.getfield 39, 3) := by decide +kernel
theorem dX6_shelf_102 : decode cX6_shelf 102 = .ok (.getfield 199, 3) := by decide +kernel
theorem dX6_shelf_105 : decode cX6_shelf 105 = .ok (.iload_n 3, 1) := by decide +kernel
theorem dX6_shelf_106 : decode cX6_shelf 106 = .ok (.iaload, 1) := by decide +kernel
theorem dX6_shelf_107 : decode cX6_shelf 107 = .ok (.invokevirtual 216, 3) := by decide +kernel
theorem dX6_shelf_110 : decode cX6_shelf 110 = .ok (.goto 11, 3) := by decide +kernel
theorem dX6_shelf_113 : decode cX6_shelf 113 = .ok (.aload_n 0, 1) := by decide +kernel
theorem dX6_shelf_114 : decode cX6_shelf 114 = .ok (.getfield 46, 3) := by decide +kernel
theorem dX6_shelf_117 : decode cX6_shelf 117 = .ok (.iload_n 1, 1) := by decide +kernel
theorem dX6_shelf_118 : decode cX6_shelf 118 = .ok (.invokevirtual 219, 3) := by decide +kernel
theorem dX6_shelf_121 : decode cX6_shelf 121 = .ok (.iconst 1, 1) := by decide +kernel
theorem dX6_shelf_122 : decode cX6_shelf 122 = .ok (.ireturn, 1) := by decide +kernel
theorem dX6_taken_0 : decode cX6_taken 0 = .ok (.iload_n 2, 1) := by decide +kernel
theorem dX6_taken_1 : decode cX6_taken 1 = .ok (.iconst 0, 1) := by decide +kernel
theorem dX6_taken_2 : decode cX6_taken 2 = .ok (.iconst 5, 1) := by decide +kernel
theorem dX6_taken_3 : decode cX6_taken 3 = .ok (.invokestatic 75, 3) := by decide +kernel
theorem dX6_taken_6 : decode cX6_taken 6 = .ok (.ifCond .ne 7, 3) := by decide +kernel
theorem dX6_taken_9 : decode cX6_taken 9 = .ok (.iconst 1, 1) := by decide +kernel
theorem dX6_taken_10 : decode cX6_taken 10 = .ok (.goto 4, 3) := by decide +kernel
theorem dX6_taken_13 : decode cX6_taken 13 = .ok (.iconst 0, 1) := by decide +kernel
theorem dX6_taken_14 : decode cX6_taken 14 = .ok (.istore_n 3, 1) := by decide +kernel
theorem dX6_taken_15 : decode cX6_taken 15 = .ok (.iload_n 2, 1) := by decide +kernel
theorem dX6_taken_16 : decode cX6_taken 16 = .ok (.bipush 10, 2) := by decide +kernel
theorem dX6_taken_18 : decode cX6_taken 18 = .ok (.bipush 13, 2) := by decide +kernel
theorem dX6_taken_20 : decode cX6_taken 20 = .ok (.invokestatic 75, 3) := by decide +kernel
theorem dX6_taken_23 : decode cX6_taken 23 = .ok (.ifCond .ne 7, 3) := by decide +kernel
theorem dX6_taken_26 : decode cX6_taken 26 = .ok (.iconst 1, 1) := by decide +kernel
theorem dX6_taken_27 : decode cX6_taken 27 = .ok (.goto 4, 3) := by decide +kernel
theorem dX6_taken_30 : decode cX6_taken 30 = .ok (.iconst 0, 1) := by decide +kernel
theorem dX6_taken_31 : decode cX6_taken 31 = .ok (.istore 4, 2) := by decide +kernel
theorem dX6_taken_33 : decode cX6_taken 33 = .ok (.iload_n 1, 1) := by decide +kernel
theorem dX6_taken_34 : decode cX6_taken 34 = .ok (.iconst 0, 1) := by decide +kernel
theorem dX6_taken_35 : decode cX6_taken 35 = .ok (.iconst 3, 1) := by decide +kernel
theorem dX6_taken_36 : decode cX6_taken 36 = .ok (.invokestatic 75, 3) := by decide +kernel
theorem dX6_taken_39 : decode cX6_taken 39 = .ok (.ifCond .ne 12, 3) := by decide +kernel
theorem dX6_taken_42 : decode cX6_taken 42 = .ok (.iload_n 3, 1) := by decide +kernel
theorem dX6_taken_43 : decode cX6_taken 43 = .ok (.ifCond .ne 10, 3) := by decide +kernel
theorem dX6_taken_46 : decode cX6_taken 46 = .ok (.iload 4, 2) := by decide +kernel
theorem dX6_taken_48 : decode cX6_taken 48 = .ok (.ifCond .ne 5, 3) := by decide +kernel
theorem dX6_taken_51 : decode cX6_taken 51 = .ok (.iconst (-1), 1) := by decide +kernel
theorem dX6_taken_52 : decode cX6_taken 52 = .ok (.ireturn, 1) := by decide +kernel
theorem dX6_taken_53 : decode cX6_taken 53 = .ok (.aload_n 0, 1) := by decide +kernel
theorem dX6_taken_54 : decode cX6_taken 54 = .ok (.getfield 46, 3) := by decide +kernel
theorem dX6_taken_57 : decode cX6_taken 57 = .ok (.getfield 222, 3) := by decide +kernel
theorem dX6_taken_60 : decode cX6_taken 60 = .ok (.iload_n 1, 1) := by decide +kernel
theorem dX6_taken_61 : decode cX6_taken 61 = .ok (.iaload, 1) := by decide +kernel
theorem dX6_taken_62 : decode cX6_taken 62 = .ok (.istore 5, 2) := by decide +kernel
theorem dX6_taken_64 : decode cX6_taken 64 = .ok (.aload_n 0, 1) := by decide +kernel
theorem dX6_taken_65 : decode cX6_taken 65 = .ok (.getfield 10, 3) := by decide +kernel
theorem dX6_taken_68 : decode cX6_taken 68 = .ok (.iload 5, 2) := by decide +kernel
theorem dX6_taken_70 : decode cX6_taken 70 = .ok (.invokevirtual 119, 3) := by decide +kernel
theorem dX6_taken_73 : decode cX6_taken 73 = .ok (.ifCond .eq 35, 3) := by decide +kernel
theorem dX6_taken_76 : decode cX6_taken 76 = .ok (.iload_n 3, 1) := by decide +kernel
theorem dX6_taken_77 : decode cX6_taken 77 = .ok (.ifCond .eq 28, 3) := by decide +kernel
theorem dX6_taken_80 : decode cX6_taken 80 = .ok (.aload_n 0, 1) := by decide +kernel
theorem dX6_taken_81 : decode cX6_taken 81 = .ok (.getfield 10, 3) := by decide +kernel
theorem dX6_taken_84 : decode cX6_taken 84 = .ok (.getfield 123, 3) := by decide +kernel
theorem dX6_taken_87 : decode cX6_taken 87 = .ok (.iload 5, 2) := by decide +kernel
theorem dX6_taken_89 : decode cX6_taken 89 = .ok (.iaload, 1) := by decide +kernel
theorem dX6_taken_90 : decode cX6_taken 90 = .ok (.invokestatic 225, 3) := by decide +kernel
theorem dX6_taken_93 : decode cX6_taken 93 = .ok (.iload_n 2, 1) := by decide +kernel
theorem dX6_taken_94 : decode cX6_taken 94 = .ok (.invokestatic 228, 3) := by decide +kernel
theorem dX6_taken_97 : decode cX6_taken 97 = .ok (.ifCond .eq 8, 3) := by decide +kernel
theorem dX6_taken_100 : decode cX6_taken 100 = .ok (.iload 5, 2) := by decide +kernel
theorem dX6_taken_102 : decode cX6_taken 102 = .ok (.goto 5, 3) := by decide +kernel
theorem dX6_taken_105 : decode cX6_taken 105 = .ok (.bipush (-13), 2) := by decide +kernel
theorem dX6_taken_107 : decode cX6_taken 107 = .ok (.ireturn, 1) := by decide +kernel
theorem dX6_taken_108 : decode cX6_taken 108 = .ok (.aload_n 0, 1) := by decide +kernel
theorem dX6_taken_109 : decode cX6_taken 109 = .ok (.getfield 46, 3) := by decide +kernel
theorem dX6_taken_112 : decode cX6_taken 112 = .ok (.getfield 231, 3) := by decide +kernel
theorem dX6_taken_115 : decode cX6_taken 115 = .ok (.iload_n 1, 1) := by decide +kernel
theorem dX6_taken_116 : decode cX6_taken 116 = .ok (.iaload, 1) := by decide +kernel
theorem dX6_taken_117 : decode cX6_taken 117 = .ok (.ifCond .ge 6, 3) := by decide +kernel
theorem dX6_taken_120 : decode cX6_taken 120 = .ok (.bipush (-11), 2) := by decide +kernel
theorem dX6_taken_122 : decode cX6_taken 122 = .ok (.ireturn, 1) := by decide +kernel
theorem dX6_taken_123 : decode cX6_taken 123 = .ok (.aload_n 0, 1) := by decide +kernel
theorem dX6_taken_124 : decode cX6_taken 124 = .ok (.getfield 46, 3) := by decide +kernel
theorem dX6_taken_127 : decode cX6_taken 127 = .ok (.getfield 231, 3) := by decide +kernel
theorem dX6_taken_130 : decode cX6_taken 130 = .ok (.iload_n 1, 1) := by decide +kernel
theorem dX6_taken_131 : decode cX6_taken 131 = .ok (.iaload, 1) := by decide +kernel
theorem dX6_taken_132 : decode cX6_taken 132 = .ok (.iload_n 2, 1) := by decide +kernel
theorem dX6_taken_133 : decode cX6_taken 133 = .ok (.bipush 10, 2) := by decide +kernel
theorem dX6_taken_135 : decode cX6_taken 135 = .ok (.isub, 1) := by decide +kernel
theorem dX6_taken_136 : decode cX6_taken 136 = .ok (.if_icmp .ne 15, 3) := by decide +kernel
theorem dX6_taken_139 : decode cX6_taken 139 = .ok (.aload_n 0, 1) := by decide +kernel
theorem dX6_taken_140 : decode cX6_taken 140 = .ok (.getfield 46, 3) := by decide +kernel
theorem dX6_taken_143 : decode cX6_taken 143 = .ok (.getfield 232, 3) := by decide +kernel
theorem dX6_taken_146 : decode cX6_taken 146 = .ok (.iload_n 1, 1) := by decide +kernel
theorem dX6_taken_147 : decode cX6_taken 147 = .ok (.iaload, 1) := by decide +kernel
theorem dX6_taken_148 : decode cX6_taken 148 = .ok (.goto 5, 3) := by decide +kernel
theorem dX6_taken_151 : decode cX6_taken 151 = .ok (.bipush (-13), 2) := by decide +kernel
theorem dX6_taken_153 : decode cX6_taken 153 = .ok (.ireturn, 1) := by decide +kernel
theorem dX6_act_0 : decode cX6_act 0 = .ok (.aload_n 0, 1) := by decide +kernel
theorem dX6_act_1 : decode cX6_act 1 = .ok (.getfield 53, 3) := by decide +kernel
theorem dX6_act_4 : decode cX6_act 4 = .ok (.iconst 0, 1) := by decide +kernel
theorem dX6_act_5 : decode cX6_act 5 = .ok (.putfield 233, 3) := by decide +kernel
theorem dX6_act_8 : decode cX6_act 8 = .ok (.iload_n 1, 1) := by decide +kernel
theorem dX6_act_9 : decode cX6_act 9 = .ok (.iconst 0, 1) := by decide +kernel
theorem dX6_act_10 : decode cX6_act 10 = .ok (.iconst 3, 1) := by decide +kernel
theorem dX6_act_11 : decode cX6_act 11 = .ok (.invokestatic 75, 3) := by decide +kernel
theorem dX6_act_14 : decode cX6_act 14 = .ok (.ifCond .ne 12, 3) := by decide +kernel
theorem dX6_act_17 : decode cX6_act 17 = .ok (.iload_n 2, 1) := by decide +kernel
theorem dX6_act_18 : decode cX6_act 18 = .ok (.iconst 0, 1) := by decide +kernel
theorem dX6_act_19 : decode cX6_act 19 = .ok (.iconst 3, 1) := by decide +kernel
theorem dX6_act_20 : decode cX6_act 20 = .ok (.invokestatic 75, 3) := by decide +kernel
theorem dX6_act_23 : decode cX6_act 23 = .ok (.ifCond .eq 5, 3) := by decide +kernel
theorem dX6_act_26 : decode cX6_act 26 = .ok (.iconst 0, 1) := by decide +kernel
theorem dX6_act_27 : decode cX6_act 27 = .ok (.ireturn, 1) := by decide +kernel
theorem dX6_act_28 : decode cX6_act 28 = .ok (.aload_n 0, 1) := by decide +kernel
theorem dX6_act_29 : decode cX6_act 29 = .ok (.getfield 46, 3) := by decide +kernel
theorem dX6_act_32 : decode cX6_act 32 = .ok (.getfield 222, 3) := by decide +kernel
theorem dX6_act_35 : decode cX6_act 35 = .ok (.iload_n 1, 1) := by decide +kernel
theorem dX6_act_36 : decode cX6_act 36 = .ok (.iaload, 1) := by decide +kernel
theorem dX6_act_37 : decode cX6_act 37 = .ok (.istore 4, 2) := by decide +kernel
theorem dX6_act_39 : decode cX6_act 39 = .ok (.aload_n 0, 1) := by decide +kernel
theorem dX6_act_40 : decode cX6_act 40 = .ok (.getfield 10, 3) := by decide +kernel
theorem dX6_act_43 : decode cX6_act 43 = .ok (.iload 4, 2) := by decide +kernel
theorem dX6_act_45 : decode cX6_act 45 = .ok (.invokevirtual 119, 3) := by decide +kernel
theorem dX6_act_48 : decode cX6_act 48 = .ok (.ifCond .ne 5, 3) := by decide +kernel
theorem dX6_act_51 : decode cX6_act 51 = .ok (.iconst 0, 1) := by decide +kernel
theorem dX6_act_52 : decode cX6_act 52 = .ok (.ireturn, 1) := by decide +kernel
theorem dX6_act_53 : decode cX6_act 53 = .ok (.aload_n 0, 1) := by decide +kernel
theorem dX6_act_54 : decode cX6_act 54 = .ok (.getfield 53, 3) := by decide +kernel
theorem dX6_act_57 : decode cX6_act 57 = .ok (.aload_n 0, 1) := by decide +kernel
theorem dX6_act_58 : decode cX6_act 58 = .ok (.getfield 10, 3) := by decide +kernel
theorem dX6_act_61 : decode cX6_act 61 = .ok (.getfield 123, 3) := by decide +kernel
theorem dX6_act_64 : decode cX6_act 64 = .ok (.iload 4, 2) := by decide +kernel
theorem dX6_act_66 : decode cX6_act 66 = .ok (.iaload, 1) := by decide +kernel
theorem dX6_act_67 : decode cX6_act 67 = .ok (.invokestatic 225, 3) := by decide +kernel
theorem dX6_act_70 : decode cX6_act 70 = .ok (.iload 4, 2) := by decide +kernel
theorem dX6_act_72 : decode cX6_act 72 = .ok (.aload_n 0, 1) := by decide +kernel
theorem dX6_act_73 : decode cX6_act 73 = .ok (.getfield 10, 3) := by decide +kernel
theorem dX6_act_76 : decode cX6_act 76 = .ok (.getfield 123, 3) := by decide +kernel
theorem dX6_act_79 : decode cX6_act 79 = .ok (.iload 4, 2) := by decide +kernel
theorem dX6_act_81 : decode cX6_act 81 = .ok (.iaload, 1) := by decide +kernel
theorem dX6_act_82 : decode cX6_act 82 = .ok (.invokestatic 236, 3) := by decide +kernel
theorem dX6_act_85 : decode cX6_act 85 = .ok (.invokevirtual 239, 3) := by decide +kernel
theorem dX6_act_88 : decode cX6_act 88 = .ok (.aload_n 0, 1) := by decide +kernel
theorem dX6_act_89 : decode cX6_act 89 = .ok (.getfield 53, 3) := by decide +kernel
theorem dX6_act_92 : decode cX6_act 92 = .ok (.iload_n 2, 1) := by decide +kernel
theorem dX6_act_93 : decode cX6_act 93 = .ok (.iload_n 3, 1) := by decide +kernel
theorem dX6_act_94 : decode cX6_act 94 = .ok (.invokevirtual 241, 3) := by decide +kernel
theorem dX6_act_97 : decode cX6_act 97 = .ok (.ireturn, 1) := by decide +kernel
theorem dX6_trace_0 : decode cX6_trace 0 = .ok (.iload_n 1, 1) := by decide +kernel
theorem dX6_trace_1 : decode cX6_trace 1 = .ok (.iconst 0, 1) := by decide +kernel
theorem dX6_trace_2 : decode cX6_trace 2 = .ok (.aload_n 0, 1) := by decide +kernel
theorem dX6_trace_3 : decode cX6_trace 3 = .ok (.getfield 53, 3) := by decide +kernel
theorem dX6_trace_6 : decode cX6_trace 6 = .ok (.getfield 233, 3) := by decide +kernel
theorem dX6_trace_9 : decode cX6_trace 9 = .ok (.iconst 1, 1) := by decide +kernel
theorem dX6_trace_10 : decode cX6_trace 10 = .ok (.isub, 1) := by decide +kernel
theorem dX6_trace_11 : decode cX6_trace 11 = .ok (.invokestatic 75, 3) := by decide +kernel
theorem dX6_trace_14 : decode cX6_trace 14 = .ok (.ifCond .eq 8, 3) := by decide +kernel
theorem dX6_trace_17 : decode cX6_trace 17 = .ok (.bipush (-3), 2) := by decide +kernel
theorem dX6_trace_19 : decode cX6_trace 19 = .ok (.goto 12, 3) := by decide +kernel
theorem dX6_trace_22 : decode cX6_trace 22 = .ok (.aload_n 0, 1) := by decide +kernel
theorem dX6_trace_23 : decode cX6_trace 23 = .ok (.getfield 53, 3) := by decide +kernel
theorem dX6_trace_26 : decode cX6_trace 26 = .ok (.getfield 244, 3) := by decide +kernel
theorem dX6_trace_29 : decode cX6_trace 29 = .ok (.iload_n 1, 1) := by decide +kernel
theorem dX6_trace_30 : decode cX6_trace 30 = .ok (.iaload, 1) := by decide +kernel
theorem dX6_trace_31 : decode cX6_trace 31 = .ok (.ireturn, 1) := by decide +kernel
theorem dX6_many_0 : decode cX6_many 0 = .ok (.iload_n 1, 1) := by decide +kernel
theorem dX6_many_1 : decode cX6_many 1 = .ok (.tableswitch 99 0 6 #[43, 51, 59, 67, 75, 83, 91], 43) := by decide +kernel
theorem dX6_many_44 : decode cX6_many 44 = .ok (.aload_n 0, 1) := by decide +kernel
theorem dX6_many_45 : decode cX6_many 45 = .ok (.getfield 10, 3) := by decide +kernel
theorem dX6_many_48 : decode cX6_many 48 = .ok (.invokevirtual 95, 3) := by decide +kernel
theorem dX6_many_51 : decode cX6_many 51 = .ok (.ireturn, 1) := by decide +kernel
theorem dX6_many_52 : decode cX6_many 52 = .ok (.aload_n 0, 1) := by decide +kernel
theorem dX6_many_53 : decode cX6_many 53 = .ok (.getfield 10, 3) := by decide +kernel
theorem dX6_many_56 : decode cX6_many 56 = .ok (.getfield 108, 3) := by decide +kernel
theorem dX6_many_59 : decode cX6_many 59 = .ok (.ireturn, 1) := by decide +kernel
theorem dX6_many_60 : decode cX6_many 60 = .ok (.aload_n 0, 1) := by decide +kernel
theorem dX6_many_61 : decode cX6_many 61 = .ok (.getfield 10, 3) := by decide +kernel
theorem dX6_many_64 : decode cX6_many 64 = .ok (.getfield 105, 3) := by decide +kernel
theorem dX6_many_67 : decode cX6_many 67 = .ok (.ireturn, 1) := by decide +kernel
theorem dX6_many_68 : decode cX6_many 68 = .ok (.aload_n 0, 1) := by decide +kernel
theorem dX6_many_69 : decode cX6_many 69 = .ok (.getfield 10, 3) := by decide +kernel
theorem dX6_many_72 : decode cX6_many 72 = .ok (.invokevirtual 144, 3) := by decide +kernel
theorem dX6_many_75 : decode cX6_many 75 = .ok (.ireturn, 1) := by decide +kernel
theorem dX6_many_76 : decode cX6_many 76 = .ok (.aload_n 0, 1) := by decide +kernel
theorem dX6_many_77 : decode cX6_many 77 = .ok (.getfield 32, 3) := by decide +kernel
theorem dX6_many_80 : decode cX6_many 80 = .ok (.getfield 94, 3) := by decide +kernel
theorem dX6_many_83 : decode cX6_many 83 = .ok (.ireturn, 1) := by decide +kernel
theorem dX6_many_84 : decode cX6_many 84 = .ok (.aload_n 0, 1) := by decide +kernel
theorem dX6_many_85 : decode cX6_many 85 = .ok (.getfield 25, 3) := by decide +kernel
theorem dX6_many_88 : decode cX6_many 88 = .ok (.getfield 83, 3) := by decide +kernel
theorem dX6_many_91 : decode cX6_many 91 = .ok (.ireturn, 1) := by decide +kernel
theorem dX6_many_92 : decode cX6_many 92 = .ok (.aload_n 0, 1) := by decide +kernel
theorem dX6_many_93 : decode cX6_many 93 = .ok (.getfield 53, 3) := by decide +kernel
theorem dX6_many_96 : decode cX6_many 96 = .ok (.getfield 233, 3) := by decide +kernel
theorem dX6_many_99 : decode cX6_many 99 = .ok (.ireturn, 1) := by decide +kernel
theorem dX6_many_100 : decode cX6_many 100 = .ok (.iconst (-1), 1) := by decide +kernel
theorem dX6_many_101 : decode cX6_many 101 = .ok (.ireturn, 1) := by decide +kernel
theorem dX6_keep_0 : decode cX6_keep 0 = .ok (.aload_n 0, 1) := by decide +kernel
theorem dX6_keep_1 : decode cX6_keep 1 = .ok (.getfield 16, 3) := by decide +kernel
theorem dX6_keep_4 : decode cX6_keep 4 = .ok (.aload_n 0, 1) := by decide +kernel
theorem dX6_keep_5 : decode cX6_keep 5 = .ok (.getfield 10, 3) := by decide +kernel
theorem dX6_keep_8 : decode cX6_keep 8 = .ok (.invokevirtual 90, 3) := by decide +kernel
theorem dX6_keep_11 : decode cX6_keep 11 = .ok (.aload_n 0, 1) := by decide +kernel
theorem dX6_keep_12 : decode cX6_keep 12 = .ok (.aload_n 0, 1) := by decide +kernel
theorem dX6_keep_13 : decode cX6_keep 13 = .ok (.getfield 68, 3) := by decide +kernel
theorem dX6_keep_16 : decode cX6_keep 16 = .ok (.putfield 72, 3) := by decide +kernel
theorem dX6_keep_19 : decode cX6_keep 19 = .ok (.aload_n 0, 1) := by decide +kernel
theorem dX6_keep_20 : decode cX6_keep 20 = .ok (.iconst 1, 1) := by decide +kernel
theorem dX6_keep_21 : decode cX6_keep 21 = .ok (.putfield 64, 3) := by decide +kernel
theorem dX6_keep_24 : decode cX6_keep 24 = .ok (.iconst 1, 1) := by decide +kernel
theorem dX6_keep_25 : decode cX6_keep 25 = .ok (.ireturn, 1) := by decide +kernel
theorem dX6_again_0 : decode cX6_again 0 = .ok (.aload_n 0, 1) := by decide +kernel
theorem dX6_again_1 : decode cX6_again 1 = .ok (.getfield 64, 3) := by decide +kernel
theorem dX6_again_4 : decode cX6_again 4 = .ok (.ifCond .ne 6, 3) := by decide +kernel
theorem dX6_again_7 : decode cX6_again 7 = .ok (.bipush (-3), 2) := by decide +kernel
theorem dX6_again_9 : decode cX6_again 9 = .ok (.ireturn, 1) := by decide +kernel
theorem dX6_again_10 : decode cX6_again 10 = .ok (.aload_n 0, 1) := by decide +kernel
theorem dX6_again_11 : decode cX6_again 11 = .ok (.getfield 10, 3) := by decide +kernel
theorem dX6_again_14 : decode cX6_again 14 = .ok (.aload_n 0, 1) := by decide +kernel
theorem dX6_again_15 : decode cX6_again 15 = .ok (.getfield 16, 3) := by decide +kernel
theorem dX6_again_18 : decode cX6_again 18 = .ok (.invokevirtual 90, 3) := by decide +kernel
theorem dX6_again_21 : decode cX6_again 21 = .ok (.aload_n 0, 1) := by decide +kernel
theorem dX6_again_22 : decode cX6_again 22 = .ok (.aload_n 0, 1) := by decide +kernel
theorem dX6_again_23 : decode cX6_again 23 = .ok (.getfield 72, 3) := by decide +kernel
theorem dX6_again_26 : decode cX6_again 26 = .ok (.putfield 68, 3) := by decide +kernel
theorem dX6_again_29 : decode cX6_again 29 = .ok (.aload_n 0, 1) := by decide +kernel
theorem dX6_again_30 : decode cX6_again 30 = .ok (.getfield 10, 3) := by decide +kernel
theorem dX6_again_33 : decode cX6_again 33 = .ok (.invokevirtual 95, 3) := by decide +kernel
theorem dX6_again_36 : decode cX6_again 36 = .ok (.ireturn, 1) := by decide +kernel
theorem dX6_outside_0 : decode cX6_outside 0 = .ok (.iload_n 0, 1) := by decide +kernel
theorem dX6_outside_1 : decode cX6_outside 1 = .ok (.iload_n 1, 1) := by decide +kernel
theorem dX6_outside_2 : decode cX6_outside 2 = .ok (.if_icmp .lt 8, 3) := by decide +kernel
theorem dX6_outside_5 : decode cX6_outside 5 = .ok (.iload_n 0, 1) := by decide +kernel
theorem dX6_outside_6 : decode cX6_outside 6 = .ok (.iload_n 2, 1) := by decide +kernel
theorem dX6_outside_7 : decode cX6_outside 7 = .ok (.if_icmp .le 7, 3) := by decide +kernel
theorem dX6_outside_10 : decode cX6_outside 10 = .ok (.iconst 1, 1) := by decide +kernel
theorem dX6_outside_11 : decode cX6_outside 11 = .ok (.goto 4, 3) := by decide +kernel
theorem dX6_outside_14 : decode cX6_outside 14 = .ok (.iconst 0, 1) := by decide +kernel
theorem dX6_outside_15 : decode cX6_outside 15 = .ok (.ireturn, 1) := by decide +kernel
theorem dX6_badWhen_0 : decode cX6_badWhen 0 = .ok (.iload_n 0, 1) := by decide +kernel
theorem dX6_badWhen_1 : decode cX6_badWhen 1 = .ok (.iconst 0, 1) := by decide +kernel
theorem dX6_badWhen_2 : decode cX6_badWhen 2 = .ok (.bipush 99, 2) := by decide +kernel
theorem dX6_badWhen_4 : decode cX6_badWhen 4 = .ok (.invokestatic 75, 3) := by decide +kernel
theorem dX6_badWhen_7 : decode cX6_badWhen 7 = .ok (.ifCond .ne 13, 3) := by decide +kernel
theorem dX6_badWhen_10 : decode cX6_badWhen 10 = .ok (.iload_n 1, 1) := by decide +kernel
theorem dX6_badWhen_11 : decode cX6_badWhen 11 = .ok (.iconst 0, 1) := by decide +kernel
theorem dX6_badWhen_12 : decode cX6_badWhen 12 = .ok (.bipush 9, 2) := by decide +kernel
theorem dX6_badWhen_14 : decode cX6_badWhen 14 = .ok (.invokestatic 75, 3) := by decide +kernel
theorem dX6_badWhen_17 : decode cX6_badWhen 17 = .ok (.ifCond .eq 7, 3) := by decide +kernel
theorem dX6_badWhen_20 : decode cX6_badWhen 20 = .ok (.iconst 1, 1) := by decide +kernel
theorem dX6_badWhen_21 : decode cX6_badWhen 21 = .ok (.goto 4, 3) := by decide +kernel
theorem dX6_badWhen_24 : decode cX6_badWhen 24 = .ok (.iconst 0, 1) := by decide +kernel
theorem dX6_badWhen_25 : decode cX6_badWhen 25 = .ok (.ireturn, 1) := by decide +kernel
theorem dX6_rest_0 : decode cX6_rest 0 = .ok (.iload_n 1, 1) := by decide +kernel
theorem dX6_rest_1 : decode cX6_rest 1 = .ok (.iconst 1, 1) := by decide +kernel
theorem dX6_rest_2 : decode cX6_rest 2 = .ok (.if_icmp .ge 7, 3) := by decide +kernel
theorem dX6_rest_5 : decode cX6_rest 5 = .ok (.iconst 0, 1) := by decide +kernel
theorem dX6_rest_6 : decode cX6_rest 6 = .ok (.goto 6, 3) := by decide +kernel
theorem dX6_rest_9 : decode cX6_rest 9 = .ok (.iload_n 0, 1) := by decide +kernel
theorem dX6_rest_10 : decode cX6_rest 10 = .ok (.iload_n 1, 1) := by decide +kernel
theorem dX6_rest_11 : decode cX6_rest 11 = .ok (.irem, 1) := by decide +kernel
theorem dX6_rest_12 : decode cX6_rest 12 = .ok (.ireturn, 1) := by decide +kernel
theorem dX6_commonDivisor_0 : decode cX6_commonDivisor 0 = .ok (.iconst 0, 1) := by decide +kernel
theorem dX6_commonDivisor_1 : decode cX6_commonDivisor 1 = .ok (.istore_n 2, 1) := by decide +kernel
theorem dX6_commonDivisor_2 : decode cX6_commonDivisor 2 = .ok (.iload_n 2, 1) := by decide +kernel
theorem dX6_commonDivisor_3 : decode cX6_commonDivisor 3 = .ok (.bipush 64, 2) := by decide +kernel
theorem dX6_commonDivisor_5 : decode cX6_commonDivisor 5 = .ok (.if_icmp .ge 21, 3) := by decide +kernel
theorem dX6_commonDivisor_8 : decode cX6_commonDivisor 8 = .ok (.iload_n 1, 1) := by decide +kernel
theorem dX6_commonDivisor_9 : decode cX6_commonDivisor 9 = .ok (.ifCond .eq 17, 3) := by decide +kernel
theorem dX6_commonDivisor_12 : decode cX6_commonDivisor 12 = .ok (.iload_n 0, 1) := by decide +kernel
theorem dX6_commonDivisor_13 : decode cX6_commonDivisor 13 = .ok (.iload_n 1, 1) := by decide +kernel
theorem dX6_commonDivisor_14 : decode cX6_commonDivisor 14 = .ok (.irem, 1) := by decide +kernel
theorem dX6_commonDivisor_15 : decode cX6_commonDivisor 15 = .ok (.istore_n 3, 1) := by decide +kernel
theorem dX6_commonDivisor_16 : decode cX6_commonDivisor 16 = .ok (.iload_n 1, 1) := by decide +kernel
theorem dX6_commonDivisor_17 : decode cX6_commonDivisor 17 = .ok (.istore_n 0, 1) := by decide +kernel
theorem dX6_commonDivisor_18 : decode cX6_commonDivisor 18 = .ok (.iload_n 3, 1) := by decide +kernel
theorem dX6_commonDivisor_19 : decode cX6_commonDivisor 19 = .ok (.istore_n 1, 1) := by decide +kernel
theorem dX6_commonDivisor_20 : decode cX6_commonDivisor 20 = .ok (.iinc 2 1, 3) := by decide +kernel
theorem dX6_commonDivisor_23 : decode cX6_commonDivisor 23 = .ok (.goto (-21), 3) := by decide +kernel
theorem dX6_commonDivisor_26 : decode cX6_commonDivisor 26 = .ok (.iload_n 0, 1) := by decide +kernel
theorem dX6_commonDivisor_27 : decode cX6_commonDivisor 27 = .ok (.ireturn, 1) := by decide +kernel
theorem dX6_narrowed_0 : decode cX6_narrowed 0 = .ok (.iload_n 1, 1) := by decide +kernel
theorem dX6_narrowed_1 : decode cX6_narrowed 1 = .ok (.ifCond .ne 7, 3) := by decide +kernel
theorem dX6_narrowed_4 : decode cX6_narrowed 4 = .ok (.iload_n 0, 1) := by decide +kernel
theorem dX6_narrowed_5 : decode cX6_narrowed 5 = .ok (.i2b, 1) := by decide +kernel
theorem dX6_narrowed_6 : decode cX6_narrowed 6 = .ok (.i2l, 1) := by decide +kernel
theorem dX6_narrowed_7 : decode cX6_narrowed 7 = .ok (.lreturn, 1) := by decide +kernel
theorem dX6_narrowed_8 : decode cX6_narrowed 8 = .ok (.iload_n 1, 1) := by decide +kernel
theorem dX6_narrowed_9 : decode cX6_narrowed 9 = .ok (.iconst 1, 1) := by decide +kernel
theorem dX6_narrowed_10 : decode cX6_narrowed 10 = .ok (.if_icmp .ne 9, 3) := by decide +kernel
theorem dX6_narrowed_13 : decode cX6_narrowed 13 = .ok (.iload_n 0, 1) := by decide +kernel
theorem dX6_narrowed_14 : decode cX6_narrowed 14 = .ok (.i2s, 1) := by decide +kernel
theorem dX6_narrowed_15 : decode cX6_narrowed 15 = .ok (.i2l, 1) := by decide +kernel
theorem dX6_narrowed_16 : decode cX6_narrowed 16 = .ok (.goto 5, 3) := by decide +kernel
theorem dX6_narrowed_19 : decode cX6_narrowed 19 = .ok (.iload_n 0, 1) := by decide +kernel
theorem dX6_narrowed_20 : decode cX6_narrowed 20 = .ok (.i2l, 1) := by decide +kernel
theorem dX6_narrowed_21 : decode cX6_narrowed 21 = .ok (.lreturn, 1) := by decide +kernel
theorem dX6_codeOf_0 : decode cX6_codeOf 0 = .ok (.iload_n 0, 1) := by decide +kernel
theorem dX6_codeOf_1 : decode cX6_codeOf 1 = .ok (.bipush 100, 2) := by decide +kernel
theorem dX6_codeOf_3 : decode cX6_codeOf 3 = .ok (.imul, 1) := by decide +kernel
theorem dX6_codeOf_4 : decode cX6_codeOf 4 = .ok (.iload_n 1, 1) := by decide +kernel
theorem dX6_codeOf_5 : decode cX6_codeOf 5 = .ok (.bipush 20, 2) := by decide +kernel
theorem dX6_codeOf_7 : decode cX6_codeOf 7 = .ok (.imul, 1) := by decide +kernel
theorem dX6_codeOf_8 : decode cX6_codeOf 8 = .ok (.iadd, 1) := by decide +kernel
theorem dX6_codeOf_9 : decode cX6_codeOf 9 = .ok (.iload_n 2, 1) := by decide +kernel
theorem dX6_codeOf_10 : decode cX6_codeOf 10 = .ok (.iconst 4, 1) := by decide +kernel
theorem dX6_codeOf_11 : decode cX6_codeOf 11 = .ok (.imul, 1) := by decide +kernel
theorem dX6_codeOf_12 : decode cX6_codeOf 12 = .ok (.iadd, 1) := by decide +kernel
theorem dX6_codeOf_13 : decode cX6_codeOf 13 = .ok (.iload_n 3, 1) := by decide +kernel
theorem dX6_codeOf_14 : decode cX6_codeOf 14 = .ok (.iadd, 1) := by decide +kernel
theorem dX6_codeOf_15 : decode cX6_codeOf 15 = .ok (.iconst 1, 1) := by decide +kernel
theorem dX6_codeOf_16 : decode cX6_codeOf 16 = .ok (.isub, 1) := by decide +kernel
theorem dX6_codeOf_17 : decode cX6_codeOf 17 = .ok (.ireturn, 1) := by decide +kernel
theorem dX6_kindOf_0 : decode cX6_kindOf 0 = .ok (.iload_n 0, 1) := by decide +kernel
theorem dX6_kindOf_1 : decode cX6_kindOf 1 = .ok (.bipush 100, 2) := by decide +kernel
theorem dX6_kindOf_3 : decode cX6_kindOf 3 = .ok (.idiv, 1) := by decide +kernel
theorem dX6_kindOf_4 : decode cX6_kindOf 4 = .ok (.ireturn, 1) := by decide +kernel
theorem dX6_aOf_0 : decode cX6_aOf 0 = .ok (.iload_n 0, 1) := by decide +kernel
theorem dX6_aOf_1 : decode cX6_aOf 1 = .ok (.bipush 20, 2) := by decide +kernel
theorem dX6_aOf_3 : decode cX6_aOf 3 = .ok (.idiv, 1) := by decide +kernel
theorem dX6_aOf_4 : decode cX6_aOf 4 = .ok (.iconst 5, 1) := by decide +kernel
theorem dX6_aOf_5 : decode cX6_aOf 5 = .ok (.irem, 1) := by decide +kernel
theorem dX6_aOf_6 : decode cX6_aOf 6 = .ok (.ireturn, 1) := by decide +kernel
theorem dX6_bOf_0 : decode cX6_bOf 0 = .ok (.iload_n 0, 1) := by decide +kernel
theorem dX6_bOf_1 : decode cX6_bOf 1 = .ok (.iconst 4, 1) := by decide +kernel
theorem dX6_bOf_2 : decode cX6_bOf 2 = .ok (.idiv, 1) := by decide +kernel
theorem dX6_bOf_3 : decode cX6_bOf 3 = .ok (.iconst 5, 1) := by decide +kernel
theorem dX6_bOf_4 : decode cX6_bOf 4 = .ok (.irem, 1) := by decide +kernel
theorem dX6_bOf_5 : decode cX6_bOf 5 = .ok (.ireturn, 1) := by decide +kernel
theorem dX6_kOf_0 : decode cX6_kOf 0 = .ok (.iload_n 0, 1) := by decide +kernel
theorem dX6_kOf_1 : decode cX6_kOf 1 = .ok (.iconst 4, 1) := by decide +kernel
theorem dX6_kOf_2 : decode cX6_kOf 2 = .ok (.irem, 1) := by decide +kernel
theorem dX6_kOf_3 : decode cX6_kOf 3 = .ok (.iconst 1, 1) := by decide +kernel
theorem dX6_kOf_4 : decode cX6_kOf 4 = .ok (.iadd, 1) := by decide +kernel
theorem dX6_kOf_5 : decode cX6_kOf 5 = .ok (.ireturn, 1) := by decide +kernel
theorem dX6_wordsOf_0 : decode cX6_wordsOf 0 = .ok (.iconst 1, 1) := by decide +kernel
theorem dX6_wordsOf_1 : decode cX6_wordsOf 1 = .ok (.iload_n 0, 1) := by decide +kernel
theorem dX6_wordsOf_2 : decode cX6_wordsOf 2 = .ok (.invokestatic 236, 3) := by decide +kernel
theorem dX6_wordsOf_5 : decode cX6_wordsOf 5 = .ok (.ifCond .eq 7, 3) := by decide +kernel
theorem dX6_wordsOf_8 : decode cX6_wordsOf 8 = .ok (.iconst 1, 1) := by decide +kernel
theorem dX6_wordsOf_9 : decode cX6_wordsOf 9 = .ok (.goto 4, 3) := by decide +kernel
theorem dX6_wordsOf_12 : decode cX6_wordsOf 12 = .ok (.iconst 0, 1) := by decide +kernel
theorem dX6_wordsOf_13 : decode cX6_wordsOf 13 = .ok (.iadd, 1) := by decide +kernel
theorem dX6_wordsOf_14 : decode cX6_wordsOf 14 = .ok (.iload_n 0, 1) := by decide +kernel
theorem dX6_wordsOf_15 : decode cX6_wordsOf 15 = .ok (.invokestatic 247, 3) := by decide +kernel
theorem dX6_wordsOf_18 : decode cX6_wordsOf 18 = .ok (.ifCond .eq 7, 3) := by decide +kernel
theorem dX6_wordsOf_21 : decode cX6_wordsOf 21 = .ok (.iconst 1, 1) := by decide +kernel
theorem dX6_wordsOf_22 : decode cX6_wordsOf 22 = .ok (.goto 4, 3) := by decide +kernel
theorem dX6_wordsOf_25 : decode cX6_wordsOf 25 = .ok (.iconst 0, 1) := by decide +kernel
theorem dX6_wordsOf_26 : decode cX6_wordsOf 26 = .ok (.iadd, 1) := by decide +kernel
theorem dX6_wordsOf_27 : decode cX6_wordsOf 27 = .ok (.iload_n 0, 1) := by decide +kernel
theorem dX6_wordsOf_28 : decode cX6_wordsOf 28 = .ok (.invokestatic 250, 3) := by decide +kernel
theorem dX6_wordsOf_31 : decode cX6_wordsOf 31 = .ok (.iconst 1, 1) := by decide +kernel
theorem dX6_wordsOf_32 : decode cX6_wordsOf 32 = .ok (.if_icmp .eq 7, 3) := by decide +kernel
theorem dX6_wordsOf_35 : decode cX6_wordsOf 35 = .ok (.iconst 1, 1) := by decide +kernel
theorem dX6_wordsOf_36 : decode cX6_wordsOf 36 = .ok (.goto 4, 3) := by decide +kernel
theorem dX6_wordsOf_39 : decode cX6_wordsOf 39 = .ok (.iconst 0, 1) := by decide +kernel
theorem dX6_wordsOf_40 : decode cX6_wordsOf 40 = .ok (.iadd, 1) := by decide +kernel
theorem dX6_wordsOf_41 : decode cX6_wordsOf 41 = .ok (.ireturn, 1) := by decide +kernel
theorem dX6_shareOf_0 : decode cX6_shareOf 0 = .ok (.iconst 1, 1) := by decide +kernel
theorem dX6_shareOf_1 : decode cX6_shareOf 1 = .ok (.iconst 2, 1) := by decide +kernel
theorem dX6_shareOf_2 : decode cX6_shareOf 2 = .ok (.iconst 4, 1) := by decide +kernel
theorem dX6_shareOf_3 : decode cX6_shareOf 3 = .ok (.iload_n 0, 1) := by decide +kernel
theorem dX6_shareOf_4 : decode cX6_shareOf 4 = .ok (.invokestatic 171, 3) := by decide +kernel
theorem dX6_shareOf_7 : decode cX6_shareOf 7 = .ok (.isub, 1) := by decide +kernel
theorem dX6_shareOf_8 : decode cX6_shareOf 8 = .ok (.imul, 1) := by decide +kernel
theorem dX6_shareOf_9 : decode cX6_shareOf 9 = .ok (.ishl, 1) := by decide +kernel
theorem dX6_shareOf_10 : decode cX6_shareOf 10 = .ok (.ireturn, 1) := by decide +kernel
theorem dX6_isUnder_0 : decode cX6_isUnder 0 = .ok (.iload_n 0, 1) := by decide +kernel
theorem dX6_isUnder_1 : decode cX6_isUnder 1 = .ok (.istore_n 2, 1) := by decide +kernel
theorem dX6_isUnder_2 : decode cX6_isUnder 2 = .ok (.iconst 0, 1) := by decide +kernel
theorem dX6_isUnder_3 : decode cX6_isUnder 3 = .ok (.istore_n 3, 1) := by decide +kernel
theorem dX6_isUnder_4 : decode cX6_isUnder 4 = .ok (.iload_n 3, 1) := by decide +kernel
theorem dX6_isUnder_5 : decode cX6_isUnder 5 = .ok (.getstatic 253, 3) := by decide +kernel
theorem dX6_isUnder_8 : decode cX6_isUnder 8 = .ok (.arraylength, 1) := by decide +kernel
theorem dX6_isUnder_9 : decode cX6_isUnder 9 = .ok (.if_icmp .ge 34, 3) := by decide +kernel
theorem dX6_isUnder_12 : decode cX6_isUnder 12 = .ok (.iload_n 2, 1) := by decide +kernel
theorem dX6_isUnder_13 : decode cX6_isUnder 13 = .ok (.ifCond .lt 30, 3) := by decide +kernel
theorem dX6_isUnder_16 : decode cX6_isUnder 16 = .ok (.iload_n 2, 1) := by decide +kernel
theorem dX6_isUnder_17 : decode cX6_isUnder 17 = .ok (.getstatic 253, 3) := by decide +kernel
theorem dX6_isUnder_20 : decode cX6_isUnder 20 = .ok (.arraylength, 1) := by decide +kernel
theorem dX6_isUnder_21 : decode cX6_isUnder 21 = .ok (.if_icmp .ge 22, 3) := by decide +kernel
theorem dX6_isUnder_24 : decode cX6_isUnder 24 = .ok (.iload_n 2, 1) := by decide +kernel
theorem dX6_isUnder_25 : decode cX6_isUnder 25 = .ok (.iload_n 1, 1) := by decide +kernel
theorem dX6_isUnder_26 : decode cX6_isUnder 26 = .ok (.if_icmp .ne 5, 3) := by decide +kernel
theorem dX6_isUnder_29 : decode cX6_isUnder 29 = .ok (.iconst 1, 1) := by decide +kernel
theorem dX6_isUnder_30 : decode cX6_isUnder 30 = .ok (.ireturn, 1) := by decide +kernel
theorem dX6_isUnder_31 : decode cX6_isUnder 31 = .ok (.getstatic 253, 3) := by decide +kernel
theorem dX6_isUnder_34 : decode cX6_isUnder 34 = .ok (.iload_n 2, 1) := by decide +kernel
theorem dX6_isUnder_35 : decode cX6_isUnder 35 = .ok (.iaload, 1) := by decide +kernel
theorem dX6_isUnder_36 : decode cX6_isUnder 36 = .ok (.istore_n 2, 1) := by decide +kernel
theorem dX6_isUnder_37 : decode cX6_isUnder 37 = .ok (.iinc 3 1, 3) := by decide +kernel
theorem dX6_isUnder_40 : decode cX6_isUnder 40 = .ok (.goto (-36), 3) := by decide +kernel
theorem dX6_isUnder_43 : decode cX6_isUnder 43 = .ok (.iconst 0, 1) := by decide +kernel
theorem dX6_isUnder_44 : decode cX6_isUnder 44 = .ok (.ireturn, 1) := by decide +kernel
theorem dX6_partOf_0 : decode cX6_partOf 0 = .ok (.iload_n 2, 1) := by decide +kernel
theorem dX6_partOf_1 : decode cX6_partOf 1 = .ok (.tableswitch 60 0 4 #[35, 40, 45, 50, 55], 35) := by decide +kernel
theorem dX6_partOf_36 : decode cX6_partOf 36 = .ok (.iload_n 1, 1) := by decide +kernel
theorem dX6_partOf_37 : decode cX6_partOf 37 = .ok (.invokestatic 225, 3) := by decide +kernel
theorem dX6_partOf_40 : decode cX6_partOf 40 = .ok (.ireturn, 1) := by decide +kernel
theorem dX6_partOf_41 : decode cX6_partOf 41 = .ok (.iload_n 1, 1) := by decide +kernel
theorem dX6_partOf_42 : decode cX6_partOf 42 = .ok (.invokestatic 236, 3) := by decide +kernel
theorem dX6_partOf_45 : decode cX6_partOf 45 = .ok (.ireturn, 1) := by decide +kernel
theorem dX6_partOf_46 : decode cX6_partOf 46 = .ok (.iload_n 1, 1) := by decide +kernel
theorem dX6_partOf_47 : decode cX6_partOf 47 = .ok (.invokestatic 247, 3) := by decide +kernel
theorem dX6_partOf_50 : decode cX6_partOf 50 = .ok (.ireturn, 1) := by decide +kernel
theorem dX6_partOf_51 : decode cX6_partOf 51 = .ok (.iload_n 1, 1) := by decide +kernel
theorem dX6_partOf_52 : decode cX6_partOf 52 = .ok (.invokestatic 250, 3) := by decide +kernel
theorem dX6_partOf_55 : decode cX6_partOf 55 = .ok (.ireturn, 1) := by decide +kernel
theorem dX6_partOf_56 : decode cX6_partOf 56 = .ok (.iload_n 1, 1) := by decide +kernel
theorem dX6_partOf_57 : decode cX6_partOf 57 = .ok (.invokestatic 171, 3) := by decide +kernel
theorem dX6_partOf_60 : decode cX6_partOf 60 = .ok (.ireturn, 1) := by decide +kernel
theorem dX6_partOf_61 : decode cX6_partOf 61 = .ok (.aload_n 0, 1) := by decide +kernel
theorem dX6_partOf_62 : decode cX6_partOf 62 = .ok (.getfield 10, 3) := by decide +kernel
theorem dX6_partOf_65 : decode cX6_partOf 65 = .ok (.iload_n 1, 1) := by decide +kernel
theorem dX6_partOf_66 : decode cX6_partOf 66 = .ok (.bipush 24, 2) := by decide +kernel
theorem dX6_partOf_68 : decode cX6_partOf 68 = .ok (.invokevirtual 256, 3) := by decide +kernel
theorem dX6_partOf_71 : decode cX6_partOf 71 = .ok (.ireturn, 1) := by decide +kernel
theorem dX6_goOn_0 : decode cX6_goOn 0 = .ok (.aload_n 0, 1) := by decide +kernel
theorem dX6_goOn_1 : decode cX6_goOn 1 = .ok (.getfield 10, 3) := by decide +kernel
theorem dX6_goOn_4 : decode cX6_goOn 4 = .ok (.invokevirtual 144, 3) := by decide +kernel
theorem dX6_goOn_7 : decode cX6_goOn 7 = .ok (.istore_n 2, 1) := by decide +kernel
theorem dX6_goOn_8 : decode cX6_goOn 8 = .ok (.iconst 0, 1) := by decide +kernel
theorem dX6_goOn_9 : decode cX6_goOn 9 = .ok (.istore_n 3, 1) := by decide +kernel
theorem dX6_goOn_10 : decode cX6_goOn 10 = .ok (.iload_n 3, 1) := by decide +kernel
theorem dX6_goOn_11 : decode cX6_goOn 11 = .ok (.bipush 100, 2) := by decide +kernel
theorem dX6_goOn_13 : decode cX6_goOn 13 = .ok (.if_icmp .ge 51, 3) := by decide +kernel
theorem dX6_goOn_16 : decode cX6_goOn 16 = .ok (.aload_n 0, 1) := by decide +kernel
theorem dX6_goOn_17 : decode cX6_goOn 17 = .ok (.getfield 61, 3) := by decide +kernel
theorem dX6_goOn_20 : decode cX6_goOn 20 = .ok (.iload_n 3, 1) := by decide +kernel
theorem dX6_goOn_21 : decode cX6_goOn 21 = .ok (.iload_n 3, 1) := by decide +kernel
theorem dX6_goOn_22 : decode cX6_goOn 22 = .ok (.iload_n 2, 1) := by decide +kernel
theorem dX6_goOn_23 : decode cX6_goOn 23 = .ok (.if_icmp .ge 21, 3) := by decide +kernel
theorem dX6_goOn_26 : decode cX6_goOn 26 = .ok (.iload_n 3, 1) := by decide +kernel
theorem dX6_goOn_27 : decode cX6_goOn 27 = .ok (.bipush 24, 2) := by decide +kernel
theorem dX6_goOn_29 : decode cX6_goOn 29 = .ok (.if_icmp .ge 15, 3) := by decide +kernel
theorem dX6_goOn_32 : decode cX6_goOn 32 = .ok (.aload_n 0, 1) := by decide +kernel
theorem dX6_goOn_33 : decode cX6_goOn 33 = .ok (.getfield 10, 3) := by decide +kernel
theorem dX6_goOn_36 : decode cX6_goOn 36 = .ok (.getfield 99, 3) := by decide +kernel
theorem dX6_goOn_39 : decode cX6_goOn 39 = .ok (.iload_n 3, 1) := by decide +kernel
theorem dX6_goOn_40 : decode cX6_goOn 40 = .ok (.iaload, 1) := by decide +kernel
theorem dX6_goOn_41 : decode cX6_goOn 41 = .ok (.goto 16, 3) := by decide +kernel
theorem dX6_goOn_44 : decode cX6_goOn 44 = .ok (.aload_n 0, 1) := by decide +kernel
theorem dX6_goOn_45 : decode cX6_goOn 45 = .ok (.getfield 10, 3) := by decide +kernel
theorem dX6_goOn_48 : decode cX6_goOn 48 = .ok (.iload_n 1, 1) := by decide +kernel
theorem dX6_goOn_49 : decode cX6_goOn 49 = .ok (.iload_n 3, 1) := by decide +kernel
theorem dX6_goOn_50 : decode cX6_goOn 50 = .ok (.aload_n 0, 1) := by decide +kernel
theorem dX6_goOn_51 : decode cX6_goOn 51 = .ok (.getfield 61, 3) := by decide +kernel
theorem dX6_goOn_54 : decode cX6_goOn 54 = .ok (.invokevirtual 133, 3) := by decide +kernel
theorem dX6_goOn_57 : decode cX6_goOn 57 = .ok (.iastore, 1) := by decide +kernel
theorem dX6_goOn_58 : decode cX6_goOn 58 = .ok (.iinc 3 1, 3) := by decide +kernel
theorem dX6_goOn_61 : decode cX6_goOn 61 = .ok (.goto (-51), 3) := by decide +kernel
theorem dX6_goOn_64 : decode cX6_goOn 64 = .ok (.return_, 1) := by decide +kernel
theorem dX6_weigh_0 : decode cX6_weigh 0 = .ok (.iconst 0, 1) := by decide +kernel
theorem dX6_weigh_1 : decode cX6_weigh 1 = .ok (.istore_n 3, 1) := by decide +kernel
theorem dX6_weigh_2 : decode cX6_weigh 2 = .ok (.iload_n 3, 1) := by decide +kernel
theorem dX6_weigh_3 : decode cX6_weigh 3 = .ok (.bipush 10, 2) := by decide +kernel
theorem dX6_weigh_5 : decode cX6_weigh 5 = .ok (.if_icmp .ge 16, 3) := by decide +kernel
theorem dX6_weigh_8 : decode cX6_weigh 8 = .ok (.aload_n 0, 1) := by decide +kernel
theorem dX6_weigh_9 : decode cX6_weigh 9 = .ok (.getfield 57, 3) := by decide +kernel
theorem dX6_weigh_12 : decode cX6_weigh 12 = .ok (.iload_n 3, 1) := by decide +kernel
theorem dX6_weigh_13 : decode cX6_weigh 13 = .ok (.iconst 0, 1) := by decide +kernel
theorem dX6_weigh_14 : decode cX6_weigh 14 = .ok (.iastore, 1) := by decide +kernel
theorem dX6_weigh_15 : decode cX6_weigh 15 = .ok (.iinc 3 1, 3) := by decide +kernel
theorem dX6_weigh_18 : decode cX6_weigh 18 = .ok (.goto (-16), 3) := by decide +kernel
theorem dX6_weigh_21 : decode cX6_weigh 21 = .ok (.iconst 0, 1) := by decide +kernel
theorem dX6_weigh_22 : decode cX6_weigh 22 = .ok (.istore_n 3, 1) := by decide +kernel
theorem dX6_weigh_23 : decode cX6_weigh 23 = .ok (.iconst 0, 1) := by decide +kernel
theorem dX6_weigh_24 : decode cX6_weigh 24 = .ok (.istore 4, 2) := by decide +kernel
theorem dX6_weigh_26 : decode cX6_weigh 26 = .ok (.iload 4, 2) := by decide +kernel
theorem dX6_weigh_28 : decode cX6_weigh 28 = .ok (.sipush 600, 3) := by decide +kernel
theorem dX6_weigh_31 : decode cX6_weigh 31 = .ok (.if_icmp .ge 75, 3) := by decide +kernel
theorem dX6_weigh_34 : decode cX6_weigh 34 = .ok (.aload_n 0, 1) := by decide +kernel
theorem dX6_weigh_35 : decode cX6_weigh 35 = .ok (.getfield 10, 3) := by decide +kernel
theorem dX6_weigh_38 : decode cX6_weigh 38 = .ok (.iload 4, 2) := by decide +kernel
theorem dX6_weigh_40 : decode cX6_weigh 40 = .ok (.iload_n 1, 1) := by decide +kernel
theorem dX6_weigh_41 : decode cX6_weigh 41 = .ok (.aload_n 0, 1) := by decide +kernel
theorem dX6_weigh_42 : decode cX6_weigh 42 = .ok (.getfield 10, 3) := by decide +kernel
theorem dX6_weigh_45 : decode cX6_weigh 45 = .ok (.getfield 99, 3) := by decide +kernel
theorem dX6_weigh_48 : decode cX6_weigh 48 = .ok (.invokevirtual 133, 3) := by decide +kernel
theorem dX6_weigh_51 : decode cX6_weigh 51 = .ok (.istore 5, 2) := by decide +kernel
theorem dX6_weigh_53 : decode cX6_weigh 53 = .ok (.iload 5, 2) := by decide +kernel
theorem dX6_weigh_55 : decode cX6_weigh 55 = .ok (.iconst 0, 1) := by decide +kernel
theorem dX6_weigh_56 : decode cX6_weigh 56 = .ok (.bipush 9, 2) := by decide +kernel
theorem dX6_weigh_58 : decode cX6_weigh 58 = .ok (.invokestatic 75, 3) := by decide +kernel
theorem dX6_weigh_61 : decode cX6_weigh 61 = .ok (.ifCond .ne 39, 3) := by decide +kernel
theorem dX6_weigh_64 : decode cX6_weigh 64 = .ok (.aload_n 0, 1) := by decide +kernel
theorem dX6_weigh_65 : decode cX6_weigh 65 = .ok (.getfield 10, 3) := by decide +kernel
theorem dX6_weigh_68 : decode cX6_weigh 68 = .ok (.iload 4, 2) := by decide +kernel
theorem dX6_weigh_70 : decode cX6_weigh 70 = .ok (.iload_n 2, 1) := by decide +kernel
theorem dX6_weigh_71 : decode cX6_weigh 71 = .ok (.invokevirtual 155, 3) := by decide +kernel
theorem dX6_weigh_74 : decode cX6_weigh 74 = .ok (.ifCond .eq 26, 3) := by decide +kernel
theorem dX6_weigh_77 : decode cX6_weigh 77 = .ok (.aload_n 0, 1) := by decide +kernel
theorem dX6_weigh_78 : decode cX6_weigh 78 = .ok (.getfield 57, 3) := by decide +kernel
theorem dX6_weigh_81 : decode cX6_weigh 81 = .ok (.iload 5, 2) := by decide +kernel
theorem dX6_weigh_83 : decode cX6_weigh 83 = .ok (.dup2, 1) := by decide +kernel
theorem dX6_weigh_84 : decode cX6_weigh 84 = .ok (.iaload, 1) := by decide +kernel
theorem dX6_weigh_85 : decode cX6_weigh 85 = .ok (.iload 4, 2) := by decide +kernel
theorem dX6_weigh_87 : decode cX6_weigh 87 = .ok (.invokestatic 259, 3) := by decide +kernel
theorem dX6_weigh_90 : decode cX6_weigh 90 = .ok (.iadd, 1) := by decide +kernel
theorem dX6_weigh_91 : decode cX6_weigh 91 = .ok (.iastore, 1) := by decide +kernel
theorem dX6_weigh_92 : decode cX6_weigh 92 = .ok (.iload_n 3, 1) := by decide +kernel
theorem dX6_weigh_93 : decode cX6_weigh 93 = .ok (.iload 4, 2) := by decide +kernel
theorem dX6_weigh_95 : decode cX6_weigh 95 = .ok (.invokestatic 259, 3) := by decide +kernel
theorem dX6_weigh_98 : decode cX6_weigh 98 = .ok (.iadd, 1) := by decide +kernel
theorem dX6_weigh_99 : decode cX6_weigh 99 = .ok (.istore_n 3, 1) := by decide +kernel
theorem dX6_weigh_100 : decode cX6_weigh 100 = .ok (.iinc 4 1, 3) := by decide +kernel
theorem dX6_weigh_103 : decode cX6_weigh 103 = .ok (.goto (-77), 3) := by decide +kernel
theorem dX6_weigh_106 : decode cX6_weigh 106 = .ok (.iload_n 3, 1) := by decide +kernel
theorem dX6_weigh_107 : decode cX6_weigh 107 = .ok (.ireturn, 1) := by decide +kernel
theorem dX6_drawn_0 : decode cX6_drawn 0 = .ok (.iconst 0, 1) := by decide +kernel
theorem dX6_drawn_1 : decode cX6_drawn 1 = .ok (.istore 4, 2) := by decide +kernel
theorem dX6_drawn_3 : decode cX6_drawn 3 = .ok (.iconst 0, 1) := by decide +kernel
theorem dX6_drawn_4 : decode cX6_drawn 4 = .ok (.istore 5, 2) := by decide +kernel
theorem dX6_drawn_6 : decode cX6_drawn 6 = .ok (.iload 5, 2) := by decide +kernel
theorem dX6_drawn_8 : decode cX6_drawn 8 = .ok (.sipush 600, 3) := by decide +kernel
theorem dX6_drawn_11 : decode cX6_drawn 11 = .ok (.if_icmp .ge 67, 3) := by decide +kernel
theorem dX6_drawn_14 : decode cX6_drawn 14 = .ok (.aload_n 0, 1) := by decide +kernel
theorem dX6_drawn_15 : decode cX6_drawn 15 = .ok (.getfield 10, 3) := by decide +kernel
theorem dX6_drawn_18 : decode cX6_drawn 18 = .ok (.iload 5, 2) := by decide +kernel
theorem dX6_drawn_20 : decode cX6_drawn 20 = .ok (.iload_n 1, 1) := by decide +kernel
theorem dX6_drawn_21 : decode cX6_drawn 21 = .ok (.aload_n 0, 1) := by decide +kernel
theorem dX6_drawn_22 : decode cX6_drawn 22 = .ok (.getfield 10, 3) := by decide +kernel
theorem dX6_drawn_25 : decode cX6_drawn 25 = .ok (.getfield 99, 3) := by decide +kernel
theorem dX6_drawn_28 : decode cX6_drawn 28 = .ok (.invokevirtual 133, 3) := by decide +kernel
theorem dX6_drawn_31 : decode cX6_drawn 31 = .ok (.istore 6, 2) := by decide +kernel
theorem dX6_drawn_33 : decode cX6_drawn 33 = .ok (.iload 6, 2) := by decide +kernel
theorem dX6_drawn_35 : decode cX6_drawn 35 = .ok (.bipush (-9), 2) := by decide +kernel
theorem dX6_drawn_37 : decode cX6_drawn 37 = .ok (.if_icmp .eq 35, 3) := by decide +kernel
theorem dX6_drawn_40 : decode cX6_drawn 40 = .ok (.aload_n 0, 1) := by decide +kernel
theorem dX6_drawn_41 : decode cX6_drawn 41 = .ok (.getfield 10, 3) := by decide +kernel
theorem dX6_drawn_44 : decode cX6_drawn 44 = .ok (.iload 5, 2) := by decide +kernel
theorem dX6_drawn_46 : decode cX6_drawn 46 = .ok (.iload_n 2, 1) := by decide +kernel
theorem dX6_drawn_47 : decode cX6_drawn 47 = .ok (.invokevirtual 155, 3) := by decide +kernel
theorem dX6_drawn_50 : decode cX6_drawn 50 = .ok (.ifCond .eq 22, 3) := by decide +kernel
theorem dX6_drawn_53 : decode cX6_drawn 53 = .ok (.iload 4, 2) := by decide +kernel
theorem dX6_drawn_55 : decode cX6_drawn 55 = .ok (.iload 5, 2) := by decide +kernel
theorem dX6_drawn_57 : decode cX6_drawn 57 = .ok (.invokestatic 259, 3) := by decide +kernel
theorem dX6_drawn_60 : decode cX6_drawn 60 = .ok (.iadd, 1) := by decide +kernel
theorem dX6_drawn_61 : decode cX6_drawn 61 = .ok (.istore 4, 2) := by decide +kernel
theorem dX6_drawn_63 : decode cX6_drawn 63 = .ok (.iload 4, 2) := by decide +kernel
theorem dX6_drawn_65 : decode cX6_drawn 65 = .ok (.iload_n 3, 1) := by decide +kernel
theorem dX6_drawn_66 : decode cX6_drawn 66 = .ok (.if_icmp .le 6, 3) := by decide +kernel
theorem dX6_drawn_69 : decode cX6_drawn 69 = .ok (.iload 6, 2) := by decide +kernel
theorem dX6_drawn_71 : decode cX6_drawn 71 = .ok (.ireturn, 1) := by decide +kernel
theorem dX6_drawn_72 : decode cX6_drawn 72 = .ok (.iinc 5 1, 3) := by decide +kernel
theorem dX6_drawn_75 : decode cX6_drawn 75 = .ok (.goto (-69), 3) := by decide +kernel
theorem dX6_drawn_78 : decode cX6_drawn 78 = .ok (.bipush (-3), 2) := by decide +kernel
theorem dX6_drawn_80 : decode cX6_drawn 80 = .ok (.ireturn, 1) := by decide +kernel
theorem dX6_farFrom_0 : decode cX6_farFrom 0 = .ok (.iconst 0, 1) := by decide +kernel
theorem dX6_farFrom_1 : decode cX6_farFrom 1 = .ok (.istore_n 2, 1) := by decide +kernel
theorem dX6_farFrom_2 : decode cX6_farFrom 2 = .ok (.iconst 0, 1) := by decide +kernel
theorem dX6_farFrom_3 : decode cX6_farFrom 3 = .ok (.istore_n 3, 1) := by decide +kernel
theorem dX6_farFrom_4 : decode cX6_farFrom 4 = .ok (.iload_n 3, 1) := by decide +kernel
theorem dX6_farFrom_5 : decode cX6_farFrom 5 = .ok (.bipush 10, 2) := by decide +kernel
theorem dX6_farFrom_7 : decode cX6_farFrom 7 = .ok (.if_icmp .ge 42, 3) := by decide +kernel
theorem dX6_farFrom_10 : decode cX6_farFrom 10 = .ok (.iload_n 1, 1) := by decide +kernel
theorem dX6_farFrom_11 : decode cX6_farFrom 11 = .ok (.iload_n 3, 1) := by decide +kernel
theorem dX6_farFrom_12 : decode cX6_farFrom 12 = .ok (.isub, 1) := by decide +kernel
theorem dX6_farFrom_13 : decode cX6_farFrom 13 = .ok (.invokestatic 262, 3) := by decide +kernel
theorem dX6_farFrom_16 : decode cX6_farFrom 16 = .ok (.istore 4, 2) := by decide +kernel
theorem dX6_farFrom_18 : decode cX6_farFrom 18 = .ok (.iload_n 2, 1) := by decide +kernel
theorem dX6_farFrom_19 : decode cX6_farFrom 19 = .ok (.aload_n 0, 1) := by decide +kernel
theorem dX6_farFrom_20 : decode cX6_farFrom 20 = .ok (.getfield 57, 3) := by decide +kernel
theorem dX6_farFrom_23 : decode cX6_farFrom 23 = .ok (.iload_n 3, 1) := by decide +kernel
theorem dX6_farFrom_24 : decode cX6_farFrom 24 = .ok (.iaload, 1) := by decide +kernel
theorem dX6_farFrom_25 : decode cX6_farFrom 25 = .ok (.iload 4, 2) := by decide +kernel
theorem dX6_farFrom_27 : decode cX6_farFrom 27 = .ok (.aload_n 0, 1) := by decide +kernel
theorem dX6_farFrom_28 : decode cX6_farFrom 28 = .ok (.getfield 10, 3) := by decide +kernel
theorem dX6_farFrom_31 : decode cX6_farFrom 31 = .ok (.getfield 105, 3) := by decide +kernel
theorem dX6_farFrom_34 : decode cX6_farFrom 34 = .ok (.iload 4, 2) := by decide +kernel
theorem dX6_farFrom_36 : decode cX6_farFrom 36 = .ok (.isub, 1) := by decide +kernel
theorem dX6_farFrom_37 : decode cX6_farFrom 37 = .ok (.invokestatic 265, 3) := by decide +kernel
theorem dX6_farFrom_40 : decode cX6_farFrom 40 = .ok (.imul, 1) := by decide +kernel
theorem dX6_farFrom_41 : decode cX6_farFrom 41 = .ok (.iadd, 1) := by decide +kernel
theorem dX6_farFrom_42 : decode cX6_farFrom 42 = .ok (.istore_n 2, 1) := by decide +kernel
theorem dX6_farFrom_43 : decode cX6_farFrom 43 = .ok (.iinc 3 1, 3) := by decide +kernel
theorem dX6_farFrom_46 : decode cX6_farFrom 46 = .ok (.goto (-42), 3) := by decide +kernel
theorem dX6_farFrom_49 : decode cX6_farFrom 49 = .ok (.iload_n 2, 1) := by decide +kernel
theorem dX6_farFrom_50 : decode cX6_farFrom 50 = .ok (.ireturn, 1) := by decide +kernel
