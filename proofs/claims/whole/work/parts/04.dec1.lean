theorem dX0_init_0 : decode cX0_init 0 = .ok (.aload_n 0, 1) := by decide +kernel
theorem dX0_init_1 : decode cX0_init 1 = .ok (.invokespecial 3, 3) := by decide +kernel
theorem dX0_init_4 : decode cX0_init 4 = .ok (.aload_n 0, 1) := by decide +kernel
theorem dX0_init_5 : decode cX0_init 5 = .ok (.bipush 24, 2) := by decide +kernel
theorem dX0_init_7 : decode cX0_init 7 = .ok (.newarray .int, 2) := by decide +kernel
theorem dX0_init_9 : decode cX0_init 9 = .ok (.putfield 9, 3) := by decide +kernel
theorem dX0_init_12 : decode cX0_init 12 = .ok (.aload_n 0, 1) := by decide +kernel
theorem dX0_init_13 : decode cX0_init 13 = .ok (.bipush 24, 2) := by decide +kernel
theorem dX0_init_15 : decode cX0_init 15 = .ok (.newarray .int, 2) := by decide +kernel
theorem dX0_init_17 : decode cX0_init 17 = .ok (.putfield 15, 3) := by decide +kernel
theorem dX0_init_20 : decode cX0_init 20 = .ok (.aload_n 0, 1) := by decide +kernel
theorem dX0_init_21 : decode cX0_init 21 = .ok (.bipush 6, 2) := by decide +kernel
theorem dX0_init_23 : decode cX0_init 23 = .ok (.newarray .int, 2) := by decide +kernel
theorem dX0_init_25 : decode cX0_init 25 = .ok (.putfield 18, 3) := by decide +kernel
theorem dX0_init_28 : decode cX0_init 28 = .ok (.aload_n 0, 1) := by decide +kernel
theorem dX0_init_29 : decode cX0_init 29 = .ok (.invokevirtual 21, 3) := by decide +kernel
theorem dX0_init_32 : decode cX0_init 32 = .ok (.return_, 1) := by decide +kernel
theorem dX0_clear_0 : decode cX0_clear 0 = .ok (.iconst 0, 1) := by decide +kernel
theorem dX0_clear_1 : decode cX0_clear 1 = .ok (.istore_n 1, 1) := by decide +kernel
theorem dX0_clear_2 : decode cX0_clear 2 = .ok (.iload_n 1, 1) := by decide +kernel
theorem dX0_clear_3 : decode cX0_clear 3 = .ok (.bipush 24, 2) := by decide +kernel
theorem dX0_clear_5 : decode cX0_clear 5 = .ok (.if_icmp .ge 24, 3) := by decide +kernel
theorem dX0_clear_8 : decode cX0_clear 8 = .ok (.aload_n 0, 1) := by decide +kernel
theorem dX0_clear_9 : decode cX0_clear 9 = .ok (.getfield 9, 3) := by decide +kernel
theorem dX0_clear_12 : decode cX0_clear 12 = .ok (.iload_n 1, 1) := by decide +kernel
theorem dX0_clear_13 : decode cX0_clear 13 = .ok (.bipush (-9), 2) := by decide +kernel
theorem dX0_clear_15 : decode cX0_clear 15 = .ok (.iastore, 1) := by decide +kernel
theorem dX0_clear_16 : decode cX0_clear 16 = .ok (.aload_n 0, 1) := by decide +kernel
theorem dX0_clear_17 : decode cX0_clear 17 = .ok (.getfield 15, 3) := by decide +kernel
theorem dX0_clear_20 : decode cX0_clear 20 = .ok (.iload_n 1, 1) := by decide +kernel
theorem dX0_clear_21 : decode cX0_clear 21 = .ok (.iconst 0, 1) := by decide +kernel
theorem dX0_clear_22 : decode cX0_clear 22 = .ok (.iastore, 1) := by decide +kernel
theorem dX0_clear_23 : decode cX0_clear 23 = .ok (.iinc 1 1, 3) := by decide +kernel
theorem dX0_clear_26 : decode cX0_clear 26 = .ok (.goto (-24), 3) := by decide +kernel
theorem dX0_clear_29 : decode cX0_clear 29 = .ok (.aload_n 0, 1) := by decide +kernel
theorem dX0_clear_30 : decode cX0_clear 30 = .ok (.iconst 0, 1) := by decide +kernel
theorem dX0_clear_31 : decode cX0_clear 31 = .ok (.putfield 24, 3) := by decide +kernel
theorem dX0_clear_34 : decode cX0_clear 34 = .ok (.aload_n 0, 1) := by decide +kernel
theorem dX0_clear_35 : decode cX0_clear 35 = .ok (.bipush 10, 2) := by decide +kernel
theorem dX0_clear_37 : decode cX0_clear 37 = .ok (.putfield 28, 3) := by decide +kernel
theorem dX0_clear_40 : decode cX0_clear 40 = .ok (.return_, 1) := by decide +kernel
theorem dX0_become_0 : decode cX0_become 0 = .ok (.aload_n 1, 1) := by decide +kernel
theorem dX0_become_1 : decode cX0_become 1 = .ok (.getfield 9, 3) := by decide +kernel
theorem dX0_become_4 : decode cX0_become 4 = .ok (.iconst 0, 1) := by decide +kernel
theorem dX0_become_5 : decode cX0_become 5 = .ok (.aload_n 0, 1) := by decide +kernel
theorem dX0_become_6 : decode cX0_become 6 = .ok (.getfield 9, 3) := by decide +kernel
theorem dX0_become_9 : decode cX0_become 9 = .ok (.iconst 0, 1) := by decide +kernel
theorem dX0_become_10 : decode cX0_become 10 = .ok (.bipush 24, 2) := by decide +kernel
theorem dX0_become_12 : decode cX0_become 12 = .ok (.invokestatic 31, 3) := by decide +kernel
theorem dX0_become_15 : decode cX0_become 15 = .ok (.aload_n 1, 1) := by decide +kernel
theorem dX0_become_16 : decode cX0_become 16 = .ok (.getfield 15, 3) := by decide +kernel
theorem dX0_become_19 : decode cX0_become 19 = .ok (.iconst 0, 1) := by decide +kernel
theorem dX0_become_20 : decode cX0_become 20 = .ok (.aload_n 0, 1) := by decide +kernel
theorem dX0_become_21 : decode cX0_become 21 = .ok (.getfield 15, 3) := by decide +kernel
theorem dX0_become_24 : decode cX0_become 24 = .ok (.iconst 0, 1) := by decide +kernel
theorem dX0_become_25 : decode cX0_become 25 = .ok (.bipush 24, 2) := by decide +kernel
theorem dX0_become_27 : decode cX0_become 27 = .ok (.invokestatic 31, 3) := by decide +kernel
theorem dX0_become_30 : decode cX0_become 30 = .ok (.aload_n 1, 1) := by decide +kernel
theorem dX0_become_31 : decode cX0_become 31 = .ok (.getfield 18, 3) := by decide +kernel
theorem dX0_become_34 : decode cX0_become 34 = .ok (.iconst 0, 1) := by decide +kernel
theorem dX0_become_35 : decode cX0_become 35 = .ok (.aload_n 0, 1) := by decide +kernel
theorem dX0_become_36 : decode cX0_become 36 = .ok (.getfield 18, 3) := by decide +kernel
theorem dX0_become_39 : decode cX0_become 39 = .ok (.iconst 0, 1) := by decide +kernel
theorem dX0_become_40 : decode cX0_become 40 = .ok (.bipush 6, 2) := by decide +kernel
theorem dX0_become_42 : decode cX0_become 42 = .ok (.invokestatic 31, 3) := by decide +kernel
theorem dX0_become_45 : decode cX0_become 45 = .ok (.aload_n 0, 1) := by decide +kernel
theorem dX0_become_46 : decode cX0_become 46 = .ok (.aload_n 1, 1) := by decide +kernel
theorem dX0_become_47 : decode cX0_become 47 = .ok (.getfield 24, 3) := by decide +kernel
theorem dX0_become_50 : decode cX0_become 50 = .ok (.putfield 24, 3) := by decide +kernel
theorem dX0_become_53 : decode cX0_become 53 = .ok (.aload_n 0, 1) := by decide +kernel
theorem dX0_become_54 : decode cX0_become 54 = .ok (.aload_n 1, 1) := by decide +kernel
theorem dX0_become_55 : decode cX0_become 55 = .ok (.getfield 28, 3) := by decide +kernel
theorem dX0_become_58 : decode cX0_become 58 = .ok (.putfield 28, 3) := by decide +kernel
theorem dX0_become_61 : decode cX0_become 61 = .ok (.return_, 1) := by decide +kernel
theorem dX0_toldYears_0 : decode cX0_toldYears 0 = .ok (.iconst 0, 1) := by decide +kernel
theorem dX0_toldYears_1 : decode cX0_toldYears 1 = .ok (.istore_n 1, 1) := by decide +kernel
theorem dX0_toldYears_2 : decode cX0_toldYears 2 = .ok (.iconst 0, 1) := by decide +kernel
theorem dX0_toldYears_3 : decode cX0_toldYears 3 = .ok (.istore_n 2, 1) := by decide +kernel
theorem dX0_toldYears_4 : decode cX0_toldYears 4 = .ok (.iload_n 2, 1) := by decide +kernel
theorem dX0_toldYears_5 : decode cX0_toldYears 5 = .ok (.bipush 24, 2) := by decide +kernel
theorem dX0_toldYears_7 : decode cX0_toldYears 7 = .ok (.if_icmp .ge 23, 3) := by decide +kernel
theorem dX0_toldYears_10 : decode cX0_toldYears 10 = .ok (.aload_n 0, 1) := by decide +kernel
theorem dX0_toldYears_11 : decode cX0_toldYears 11 = .ok (.getfield 9, 3) := by decide +kernel
theorem dX0_toldYears_14 : decode cX0_toldYears 14 = .ok (.iload_n 2, 1) := by decide +kernel
theorem dX0_toldYears_15 : decode cX0_toldYears 15 = .ok (.iaload, 1) := by decide +kernel
theorem dX0_toldYears_16 : decode cX0_toldYears 16 = .ok (.bipush (-9), 2) := by decide +kernel
theorem dX0_toldYears_18 : decode cX0_toldYears 18 = .ok (.if_icmp .eq 6, 3) := by decide +kernel
theorem dX0_toldYears_21 : decode cX0_toldYears 21 = .ok (.iinc 1 1, 3) := by decide +kernel
theorem dX0_toldYears_24 : decode cX0_toldYears 24 = .ok (.iinc 2 1, 3) := by decide +kernel
theorem dX0_toldYears_27 : decode cX0_toldYears 27 = .ok (.goto (-23), 3) := by decide +kernel
theorem dX0_toldYears_30 : decode cX0_toldYears 30 = .ok (.iload_n 1, 1) := by decide +kernel
theorem dX0_toldYears_31 : decode cX0_toldYears 31 = .ok (.ireturn, 1) := by decide +kernel
theorem dX0_last_0 : decode cX0_last 0 = .ok (.iconst 0, 1) := by decide +kernel
theorem dX0_last_1 : decode cX0_last 1 = .ok (.istore_n 1, 1) := by decide +kernel
theorem dX0_last_2 : decode cX0_last 2 = .ok (.iconst 0, 1) := by decide +kernel
theorem dX0_last_3 : decode cX0_last 3 = .ok (.istore_n 2, 1) := by decide +kernel
theorem dX0_last_4 : decode cX0_last 4 = .ok (.iload_n 2, 1) := by decide +kernel
theorem dX0_last_5 : decode cX0_last 5 = .ok (.bipush 24, 2) := by decide +kernel
theorem dX0_last_7 : decode cX0_last 7 = .ok (.if_icmp .ge 24, 3) := by decide +kernel
theorem dX0_last_10 : decode cX0_last 10 = .ok (.aload_n 0, 1) := by decide +kernel
theorem dX0_last_11 : decode cX0_last 11 = .ok (.getfield 9, 3) := by decide +kernel
theorem dX0_last_14 : decode cX0_last 14 = .ok (.iload_n 2, 1) := by decide +kernel
theorem dX0_last_15 : decode cX0_last 15 = .ok (.iaload, 1) := by decide +kernel
theorem dX0_last_16 : decode cX0_last 16 = .ok (.bipush (-9), 2) := by decide +kernel
theorem dX0_last_18 : decode cX0_last 18 = .ok (.if_icmp .eq 7, 3) := by decide +kernel
theorem dX0_last_21 : decode cX0_last 21 = .ok (.iload_n 2, 1) := by decide +kernel
theorem dX0_last_22 : decode cX0_last 22 = .ok (.iconst 1, 1) := by decide +kernel
theorem dX0_last_23 : decode cX0_last 23 = .ok (.iadd, 1) := by decide +kernel
theorem dX0_last_24 : decode cX0_last 24 = .ok (.istore_n 1, 1) := by decide +kernel
theorem dX0_last_25 : decode cX0_last 25 = .ok (.iinc 2 1, 3) := by decide +kernel
theorem dX0_last_28 : decode cX0_last 28 = .ok (.goto (-24), 3) := by decide +kernel
theorem dX0_last_31 : decode cX0_last 31 = .ok (.iload_n 1, 1) := by decide +kernel
theorem dX0_last_32 : decode cX0_last 32 = .ok (.ireturn, 1) := by decide +kernel
theorem dX0_holds_0 : decode cX0_holds 0 = .ok (.iload_n 1, 1) := by decide +kernel
theorem dX0_holds_1 : decode cX0_holds 1 = .ok (.ifCond .lt 21, 3) := by decide +kernel
theorem dX0_holds_4 : decode cX0_holds 4 = .ok (.iload_n 1, 1) := by decide +kernel
theorem dX0_holds_5 : decode cX0_holds 5 = .ok (.aload_n 0, 1) := by decide +kernel
theorem dX0_holds_6 : decode cX0_holds 6 = .ok (.getfield 24, 3) := by decide +kernel
theorem dX0_holds_9 : decode cX0_holds 9 = .ok (.if_icmp .ge 13, 3) := by decide +kernel
theorem dX0_holds_12 : decode cX0_holds 12 = .ok (.iload_n 1, 1) := by decide +kernel
theorem dX0_holds_13 : decode cX0_holds 13 = .ok (.bipush 6, 2) := by decide +kernel
theorem dX0_holds_15 : decode cX0_holds 15 = .ok (.if_icmp .ge 7, 3) := by decide +kernel
theorem dX0_holds_18 : decode cX0_holds 18 = .ok (.iconst 1, 1) := by decide +kernel
theorem dX0_holds_19 : decode cX0_holds 19 = .ok (.goto 4, 3) := by decide +kernel
theorem dX0_holds_22 : decode cX0_holds 22 = .ok (.iconst 0, 1) := by decide +kernel
theorem dX0_holds_23 : decode cX0_holds 23 = .ok (.ireturn, 1) := by decide +kernel
theorem dX0_holdRule_0 : decode cX0_holdRule 0 = .ok (.aload_n 0, 1) := by decide +kernel
theorem dX0_holdRule_1 : decode cX0_holdRule 1 = .ok (.getfield 24, 3) := by decide +kernel
theorem dX0_holdRule_4 : decode cX0_holdRule 4 = .ok (.bipush 6, 2) := by decide +kernel
theorem dX0_holdRule_6 : decode cX0_holdRule 6 = .ok (.if_icmp .ge 23, 3) := by decide +kernel
theorem dX0_holdRule_9 : decode cX0_holdRule 9 = .ok (.aload_n 0, 1) := by decide +kernel
theorem dX0_holdRule_10 : decode cX0_holdRule 10 = .ok (.getfield 18, 3) := by decide +kernel
theorem dX0_holdRule_13 : decode cX0_holdRule 13 = .ok (.aload_n 0, 1) := by decide +kernel
theorem dX0_holdRule_14 : decode cX0_holdRule 14 = .ok (.getfield 24, 3) := by decide +kernel
theorem dX0_holdRule_17 : decode cX0_holdRule 17 = .ok (.iload_n 1, 1) := by decide +kernel
theorem dX0_holdRule_18 : decode cX0_holdRule 18 = .ok (.iastore, 1) := by decide +kernel
theorem dX0_holdRule_19 : decode cX0_holdRule 19 = .ok (.aload_n 0, 1) := by decide +kernel
theorem dX0_holdRule_20 : decode cX0_holdRule 20 = .ok (.dup, 1) := by decide +kernel
theorem dX0_holdRule_21 : decode cX0_holdRule 21 = .ok (.getfield 24, 3) := by decide +kernel
theorem dX0_holdRule_24 : decode cX0_holdRule 24 = .ok (.iconst 1, 1) := by decide +kernel
theorem dX0_holdRule_25 : decode cX0_holdRule 25 = .ok (.iadd, 1) := by decide +kernel
theorem dX0_holdRule_26 : decode cX0_holdRule 26 = .ok (.putfield 24, 3) := by decide +kernel
theorem dX0_holdRule_29 : decode cX0_holdRule 29 = .ok (.return_, 1) := by decide +kernel
theorem dX0_dropRule_0 : decode cX0_dropRule 0 = .ok (.iload_n 1, 1) := by decide +kernel
theorem dX0_dropRule_1 : decode cX0_dropRule 1 = .ok (.istore_n 2, 1) := by decide +kernel
theorem dX0_dropRule_2 : decode cX0_dropRule 2 = .ok (.iload_n 2, 1) := by decide +kernel
theorem dX0_dropRule_3 : decode cX0_dropRule 3 = .ok (.ifCond .lt 41, 3) := by decide +kernel
theorem dX0_dropRule_6 : decode cX0_dropRule 6 = .ok (.iload_n 2, 1) := by decide +kernel
theorem dX0_dropRule_7 : decode cX0_dropRule 7 = .ok (.iconst 1, 1) := by decide +kernel
theorem dX0_dropRule_8 : decode cX0_dropRule 8 = .ok (.iadd, 1) := by decide +kernel
theorem dX0_dropRule_9 : decode cX0_dropRule 9 = .ok (.aload_n 0, 1) := by decide +kernel
theorem dX0_dropRule_10 : decode cX0_dropRule 10 = .ok (.getfield 24, 3) := by decide +kernel
theorem dX0_dropRule_13 : decode cX0_dropRule 13 = .ok (.if_icmp .ge 31, 3) := by decide +kernel
theorem dX0_dropRule_16 : decode cX0_dropRule 16 = .ok (.iload_n 2, 1) := by decide +kernel
theorem dX0_dropRule_17 : decode cX0_dropRule 17 = .ok (.iconst 1, 1) := by decide +kernel
theorem dX0_dropRule_18 : decode cX0_dropRule 18 = .ok (.iadd, 1) := by decide +kernel
theorem dX0_dropRule_19 : decode cX0_dropRule 19 = .ok (.bipush 6, 2) := by decide +kernel
theorem dX0_dropRule_21 : decode cX0_dropRule 21 = .ok (.if_icmp .ge 23, 3) := by decide +kernel
theorem dX0_dropRule_24 : decode cX0_dropRule 24 = .ok (.aload_n 0, 1) := by decide +kernel
theorem dX0_dropRule_25 : decode cX0_dropRule 25 = .ok (.getfield 18, 3) := by decide +kernel
theorem dX0_dropRule_28 : decode cX0_dropRule 28 = .ok (.iload_n 2, 1) := by decide +kernel
theorem dX0_dropRule_29 : decode cX0_dropRule 29 = .ok (.aload_n 0, 1) := by decide +kernel
theorem dX0_dropRule_30 : decode cX0_dropRule 30 = .ok (.getfield 18, 3) := by decide +kernel
theorem dX0_dropRule_33 : decode cX0_dropRule 33 = .ok (.iload_n 2, 1) := by decide +kernel
theorem dX0_dropRule_34 : decode cX0_dropRule 34 = .ok (.iconst 1, 1) := by decide +kernel
theorem dX0_dropRule_35 : decode cX0_dropRule 35 = .ok (.iadd, 1) := by decide +kernel
theorem dX0_dropRule_36 : decode cX0_dropRule 36 = .ok (.iaload, 1) := by decide +kernel
theorem dX0_dropRule_37 : decode cX0_dropRule 37 = .ok (.iastore, 1) := by decide +kernel
theorem dX0_dropRule_38 : decode cX0_dropRule 38 = .ok (.iinc 2 1, 3) := by decide +kernel
theorem dX0_dropRule_41 : decode cX0_dropRule 41 = .ok (.goto (-39), 3) := by decide +kernel
theorem dX0_dropRule_44 : decode cX0_dropRule 44 = .ok (.aload_n 0, 1) := by decide +kernel
theorem dX0_dropRule_45 : decode cX0_dropRule 45 = .ok (.dup, 1) := by decide +kernel
theorem dX0_dropRule_46 : decode cX0_dropRule 46 = .ok (.getfield 24, 3) := by decide +kernel
theorem dX0_dropRule_49 : decode cX0_dropRule 49 = .ok (.iconst 1, 1) := by decide +kernel
theorem dX0_dropRule_50 : decode cX0_dropRule 50 = .ok (.isub, 1) := by decide +kernel
theorem dX0_dropRule_51 : decode cX0_dropRule 51 = .ok (.putfield 24, 3) := by decide +kernel
theorem dX0_dropRule_54 : decode cX0_dropRule 54 = .ok (.return_, 1) := by decide +kernel
theorem dX0_saying_0 : decode cX0_saying 0 = .ok (.iload_n 1, 1) := by decide +kernel
theorem dX0_saying_1 : decode cX0_saying 1 = .ok (.invokestatic 37, 3) := by decide +kernel
theorem dX0_saying_4 : decode cX0_saying 4 = .ok (.istore 4, 2) := by decide +kernel
theorem dX0_saying_6 : decode cX0_saying 6 = .ok (.iload_n 1, 1) := by decide +kernel
theorem dX0_saying_7 : decode cX0_saying 7 = .ok (.invokestatic 41, 3) := by decide +kernel
theorem dX0_saying_10 : decode cX0_saying 10 = .ok (.tableswitch 150 0 5 #[38, 48, 110, 99, 65, 127], 38) := by decide +kernel
theorem dX0_saying_48 : decode cX0_saying 48 = .ok (.iload 4, 2) := by decide +kernel
theorem dX0_saying_50 : decode cX0_saying 50 = .ok (.aload_n 0, 1) := by decide +kernel
theorem dX0_saying_51 : decode cX0_saying 51 = .ok (.getfield 28, 3) := by decide +kernel
theorem dX0_saying_54 : decode cX0_saying 54 = .ok (.invokestatic 44, 3) := by decide +kernel
theorem dX0_saying_57 : decode cX0_saying 57 = .ok (.ireturn, 1) := by decide +kernel
theorem dX0_saying_58 : decode cX0_saying 58 = .ok (.iload_n 1, 1) := by decide +kernel
theorem dX0_saying_59 : decode cX0_saying 59 = .ok (.invokestatic 48, 3) := by decide +kernel
theorem dX0_saying_62 : decode cX0_saying 62 = .ok (.iload_n 2, 1) := by decide +kernel
theorem dX0_saying_63 : decode cX0_saying 63 = .ok (.imul, 1) := by decide +kernel
theorem dX0_saying_64 : decode cX0_saying 64 = .ok (.iload 4, 2) := by decide +kernel
theorem dX0_saying_66 : decode cX0_saying 66 = .ok (.iadd, 1) := by decide +kernel
theorem dX0_saying_67 : decode cX0_saying 67 = .ok (.aload_n 0, 1) := by decide +kernel
theorem dX0_saying_68 : decode cX0_saying 68 = .ok (.getfield 28, 3) := by decide +kernel
theorem dX0_saying_71 : decode cX0_saying 71 = .ok (.invokestatic 44, 3) := by decide +kernel
theorem dX0_saying_74 : decode cX0_saying 74 = .ok (.ireturn, 1) := by decide +kernel
theorem dX0_saying_75 : decode cX0_saying 75 = .ok (.iload_n 1, 1) := by decide +kernel
theorem dX0_saying_76 : decode cX0_saying 76 = .ok (.invokestatic 48, 3) := by decide +kernel
theorem dX0_saying_79 : decode cX0_saying 79 = .ok (.iload_n 2, 1) := by decide +kernel
theorem dX0_saying_80 : decode cX0_saying 80 = .ok (.imul, 1) := by decide +kernel
theorem dX0_saying_81 : decode cX0_saying 81 = .ok (.iload 4, 2) := by decide +kernel
theorem dX0_saying_83 : decode cX0_saying 83 = .ok (.iadd, 1) := by decide +kernel
theorem dX0_saying_84 : decode cX0_saying 84 = .ok (.iload_n 2, 1) := by decide +kernel
theorem dX0_saying_85 : decode cX0_saying 85 = .ok (.bipush 24, 2) := by decide +kernel
theorem dX0_saying_87 : decode cX0_saying 87 = .ok (.if_icmp .ge 12, 3) := by decide +kernel
theorem dX0_saying_90 : decode cX0_saying 90 = .ok (.aload_n 0, 1) := by decide +kernel
theorem dX0_saying_91 : decode cX0_saying 91 = .ok (.getfield 15, 3) := by decide +kernel
theorem dX0_saying_94 : decode cX0_saying 94 = .ok (.iload_n 2, 1) := by decide +kernel
theorem dX0_saying_95 : decode cX0_saying 95 = .ok (.iaload, 1) := by decide +kernel
theorem dX0_saying_96 : decode cX0_saying 96 = .ok (.goto 4, 3) := by decide +kernel
theorem dX0_saying_99 : decode cX0_saying 99 = .ok (.iconst 0, 1) := by decide +kernel
theorem dX0_saying_100 : decode cX0_saying 100 = .ok (.iadd, 1) := by decide +kernel
theorem dX0_saying_101 : decode cX0_saying 101 = .ok (.aload_n 0, 1) := by decide +kernel
theorem dX0_saying_102 : decode cX0_saying 102 = .ok (.getfield 28, 3) := by decide +kernel
theorem dX0_saying_105 : decode cX0_saying 105 = .ok (.invokestatic 44, 3) := by decide +kernel
theorem dX0_saying_108 : decode cX0_saying 108 = .ok (.ireturn, 1) := by decide +kernel
theorem dX0_saying_109 : decode cX0_saying 109 = .ok (.aload_n 0, 1) := by decide +kernel
theorem dX0_saying_110 : decode cX0_saying 110 = .ok (.iload_n 2, 1) := by decide +kernel
theorem dX0_saying_111 : decode cX0_saying 111 = .ok (.iload_n 1, 1) := by decide +kernel
theorem dX0_saying_112 : decode cX0_saying 112 = .ok (.invokestatic 51, 3) := by decide +kernel
theorem dX0_saying_115 : decode cX0_saying 115 = .ok (.aload_n 3, 1) := by decide +kernel
theorem dX0_saying_116 : decode cX0_saying 116 = .ok (.invokevirtual 54, 3) := by decide +kernel
theorem dX0_saying_119 : decode cX0_saying 119 = .ok (.ireturn, 1) := by decide +kernel
theorem dX0_saying_120 : decode cX0_saying 120 = .ok (.aload_n 0, 1) := by decide +kernel
theorem dX0_saying_121 : decode cX0_saying 121 = .ok (.iload_n 1, 1) := by decide +kernel
theorem dX0_saying_122 : decode cX0_saying 122 = .ok (.aload_n 3, 1) := by decide +kernel
theorem dX0_saying_123 : decode cX0_saying 123 = .ok (.iload_n 2, 1) := by decide +kernel
theorem dX0_saying_124 : decode cX0_saying 124 = .ok (.iload_n 1, 1) := by decide +kernel
theorem dX0_saying_125 : decode cX0_saying 125 = .ok (.invokestatic 51, 3) := by decide +kernel
theorem dX0_saying_128 : decode cX0_saying 128 = .ok (.isub, 1) := by decide +kernel
theorem dX0_saying_129 : decode cX0_saying 129 = .ok (.invokestatic 58, 3) := by decide +kernel
theorem dX0_saying_132 : decode cX0_saying 132 = .ok (.iconst 0, 1) := by decide +kernel
theorem dX0_saying_133 : decode cX0_saying 133 = .ok (.invokevirtual 62, 3) := by decide +kernel
theorem dX0_saying_136 : decode cX0_saying 136 = .ok (.ireturn, 1) := by decide +kernel
theorem dX0_saying_137 : decode cX0_saying 137 = .ok (.aload_n 0, 1) := by decide +kernel
theorem dX0_saying_138 : decode cX0_saying 138 = .ok (.iload_n 1, 1) := by decide +kernel
theorem dX0_saying_139 : decode cX0_saying 139 = .ok (.aload_n 3, 1) := by decide +kernel
theorem dX0_saying_140 : decode cX0_saying 140 = .ok (.iload_n 2, 1) := by decide +kernel
theorem dX0_saying_141 : decode cX0_saying 141 = .ok (.iload_n 1, 1) := by decide +kernel
theorem dX0_saying_142 : decode cX0_saying 142 = .ok (.invokestatic 51, 3) := by decide +kernel
theorem dX0_saying_145 : decode cX0_saying 145 = .ok (.isub, 1) := by decide +kernel
theorem dX0_saying_146 : decode cX0_saying 146 = .ok (.invokestatic 58, 3) := by decide +kernel
theorem dX0_saying_149 : decode cX0_saying 149 = .ok (.aload_n 3, 1) := by decide +kernel
theorem dX0_saying_150 : decode cX0_saying 150 = .ok (.iload_n 2, 1) := by decide +kernel
theorem dX0_saying_151 : decode cX0_saying 151 = .ok (.iconst 1, 1) := by decide +kernel
theorem dX0_saying_152 : decode cX0_saying 152 = .ok (.isub, 1) := by decide +kernel
theorem dX0_saying_153 : decode cX0_saying 153 = .ok (.invokestatic 58, 3) := by decide +kernel
theorem dX0_saying_156 : decode cX0_saying 156 = .ok (.invokevirtual 62, 3) := by decide +kernel
theorem dX0_saying_159 : decode cX0_saying 159 = .ok (.ireturn, 1) := by decide +kernel
theorem dX0_saying_160 : decode cX0_saying 160 = .ok (.bipush (-9), 2) := by decide +kernel
theorem dX0_saying_162 : decode cX0_saying 162 = .ok (.ireturn, 1) := by decide +kernel
theorem dX0_tableSaying_0 : decode cX0_tableSaying 0 = .ok (.iconst 1, 1) := by decide +kernel
theorem dX0_tableSaying_1 : decode cX0_tableSaying 1 = .ok (.istore 4, 2) := by decide +kernel
theorem dX0_tableSaying_3 : decode cX0_tableSaying 3 = .ok (.iload 4, 2) := by decide +kernel
theorem dX0_tableSaying_5 : decode cX0_tableSaying 5 = .ok (.bipush 100, 2) := by decide +kernel
theorem dX0_tableSaying_7 : decode cX0_tableSaying 7 = .ok (.if_icmp .ge 46, 3) := by decide +kernel
theorem dX0_tableSaying_10 : decode cX0_tableSaying 10 = .ok (.iload 4, 2) := by decide +kernel
theorem dX0_tableSaying_12 : decode cX0_tableSaying 12 = .ok (.iload_n 2, 1) := by decide +kernel
theorem dX0_tableSaying_13 : decode cX0_tableSaying 13 = .ok (.imul, 1) := by decide +kernel
theorem dX0_tableSaying_14 : decode cX0_tableSaying 14 = .ok (.iload_n 1, 1) := by decide +kernel
theorem dX0_tableSaying_15 : decode cX0_tableSaying 15 = .ok (.if_icmp .gt 38, 3) := by decide +kernel
theorem dX0_tableSaying_18 : decode cX0_tableSaying 18 = .ok (.aload_n 3, 1) := by decide +kernel
theorem dX0_tableSaying_19 : decode cX0_tableSaying 19 = .ok (.iload_n 1, 1) := by decide +kernel
theorem dX0_tableSaying_20 : decode cX0_tableSaying 20 = .ok (.iload 4, 2) := by decide +kernel
theorem dX0_tableSaying_22 : decode cX0_tableSaying 22 = .ok (.iload_n 2, 1) := by decide +kernel
theorem dX0_tableSaying_23 : decode cX0_tableSaying 23 = .ok (.imul, 1) := by decide +kernel
theorem dX0_tableSaying_24 : decode cX0_tableSaying 24 = .ok (.isub, 1) := by decide +kernel
theorem dX0_tableSaying_25 : decode cX0_tableSaying 25 = .ok (.invokestatic 58, 3) := by decide +kernel
theorem dX0_tableSaying_28 : decode cX0_tableSaying 28 = .ok (.istore 5, 2) := by decide +kernel
theorem dX0_tableSaying_30 : decode cX0_tableSaying 30 = .ok (.iload 5, 2) := by decide +kernel
theorem dX0_tableSaying_32 : decode cX0_tableSaying 32 = .ok (.bipush (-9), 2) := by decide +kernel
theorem dX0_tableSaying_34 : decode cX0_tableSaying 34 = .ok (.if_icmp .eq 13, 3) := by decide +kernel
theorem dX0_tableSaying_37 : decode cX0_tableSaying 37 = .ok (.iload 5, 2) := by decide +kernel
theorem dX0_tableSaying_39 : decode cX0_tableSaying 39 = .ok (.aload_n 0, 1) := by decide +kernel
theorem dX0_tableSaying_40 : decode cX0_tableSaying 40 = .ok (.getfield 28, 3) := by decide +kernel
theorem dX0_tableSaying_43 : decode cX0_tableSaying 43 = .ok (.invokestatic 44, 3) := by decide +kernel
theorem dX0_tableSaying_46 : decode cX0_tableSaying 46 = .ok (.ireturn, 1) := by decide +kernel
theorem dX0_tableSaying_47 : decode cX0_tableSaying 47 = .ok (.iinc 4 1, 3) := by decide +kernel
theorem dX0_tableSaying_50 : decode cX0_tableSaying 50 = .ok (.goto (-47), 3) := by decide +kernel
theorem dX0_tableSaying_53 : decode cX0_tableSaying 53 = .ok (.bipush (-9), 2) := by decide +kernel
theorem dX0_tableSaying_55 : decode cX0_tableSaying 55 = .ok (.ireturn, 1) := by decide +kernel
theorem dX0_backSaying_0 : decode cX0_backSaying 0 = .ok (.iload_n 2, 1) := by decide +kernel
theorem dX0_backSaying_1 : decode cX0_backSaying 1 = .ok (.bipush (-9), 2) := by decide +kernel
theorem dX0_backSaying_3 : decode cX0_backSaying 3 = .ok (.if_icmp .eq 9, 3) := by decide +kernel
theorem dX0_backSaying_6 : decode cX0_backSaying 6 = .ok (.iload_n 3, 1) := by decide +kernel
theorem dX0_backSaying_7 : decode cX0_backSaying 7 = .ok (.bipush (-9), 2) := by decide +kernel
theorem dX0_backSaying_9 : decode cX0_backSaying 9 = .ok (.if_icmp .ne 6, 3) := by decide +kernel
theorem dX0_backSaying_12 : decode cX0_backSaying 12 = .ok (.bipush (-9), 2) := by decide +kernel
theorem dX0_backSaying_14 : decode cX0_backSaying 14 = .ok (.ireturn, 1) := by decide +kernel
theorem dX0_backSaying_15 : decode cX0_backSaying 15 = .ok (.iload_n 1, 1) := by decide +kernel
theorem dX0_backSaying_16 : decode cX0_backSaying 16 = .ok (.invokestatic 48, 3) := by decide +kernel
theorem dX0_backSaying_19 : decode cX0_backSaying 19 = .ok (.iload_n 2, 1) := by decide +kernel
theorem dX0_backSaying_20 : decode cX0_backSaying 20 = .ok (.imul, 1) := by decide +kernel
theorem dX0_backSaying_21 : decode cX0_backSaying 21 = .ok (.iload_n 1, 1) := by decide +kernel
theorem dX0_backSaying_22 : decode cX0_backSaying 22 = .ok (.invokestatic 37, 3) := by decide +kernel
theorem dX0_backSaying_25 : decode cX0_backSaying 25 = .ok (.iadd, 1) := by decide +kernel
theorem dX0_backSaying_26 : decode cX0_backSaying 26 = .ok (.iload_n 3, 1) := by decide +kernel
theorem dX0_backSaying_27 : decode cX0_backSaying 27 = .ok (.iadd, 1) := by decide +kernel
theorem dX0_backSaying_28 : decode cX0_backSaying 28 = .ok (.aload_n 0, 1) := by decide +kernel
theorem dX0_backSaying_29 : decode cX0_backSaying 29 = .ok (.getfield 28, 3) := by decide +kernel
theorem dX0_backSaying_32 : decode cX0_backSaying 32 = .ok (.invokestatic 44, 3) := by decide +kernel
theorem dX0_backSaying_35 : decode cX0_backSaying 35 = .ok (.ireturn, 1) := by decide +kernel
theorem dX0_standing_0 : decode cX0_standing 0 = .ok (.iload_n 1, 1) := by decide +kernel
theorem dX0_standing_1 : decode cX0_standing 1 = .ok (.ifCond .lt 9, 3) := by decide +kernel
theorem dX0_standing_4 : decode cX0_standing 4 = .ok (.iload_n 1, 1) := by decide +kernel
theorem dX0_standing_5 : decode cX0_standing 5 = .ok (.aload_n 0, 1) := by decide +kernel
theorem dX0_standing_6 : decode cX0_standing 6 = .ok (.arraylength, 1) := by decide +kernel
theorem dX0_standing_7 : decode cX0_standing 7 = .ok (.if_icmp .lt 8, 3) := by decide +kernel
theorem dX0_standing_10 : decode cX0_standing 10 = .ok (.bipush (-9), 2) := by decide +kernel
theorem dX0_standing_12 : decode cX0_standing 12 = .ok (.goto 6, 3) := by decide +kernel
theorem dX0_standing_15 : decode cX0_standing 15 = .ok (.aload_n 0, 1) := by decide +kernel
theorem dX0_standing_16 : decode cX0_standing 16 = .ok (.iload_n 1, 1) := by decide +kernel
theorem dX0_standing_17 : decode cX0_standing 17 = .ok (.iaload, 1) := by decide +kernel
theorem dX0_standing_18 : decode cX0_standing 18 = .ok (.ireturn, 1) := by decide +kernel
theorem dX0_misses_0 : decode cX0_misses 0 = .ok (.iconst 0, 1) := by decide +kernel
theorem dX0_misses_1 : decode cX0_misses 1 = .ok (.istore_n 3, 1) := by decide +kernel
theorem dX0_misses_2 : decode cX0_misses 2 = .ok (.iconst 0, 1) := by decide +kernel
theorem dX0_misses_3 : decode cX0_misses 3 = .ok (.istore 4, 2) := by decide +kernel
theorem dX0_misses_5 : decode cX0_misses 5 = .ok (.iload 4, 2) := by decide +kernel
theorem dX0_misses_7 : decode cX0_misses 7 = .ok (.bipush 24, 2) := by decide +kernel
theorem dX0_misses_9 : decode cX0_misses 9 = .ok (.if_icmp .ge 50, 3) := by decide +kernel
theorem dX0_misses_12 : decode cX0_misses 12 = .ok (.iload_n 3, 1) := by decide +kernel
theorem dX0_misses_13 : decode cX0_misses 13 = .ok (.iload_n 2, 1) := by decide +kernel
theorem dX0_misses_14 : decode cX0_misses 14 = .ok (.if_icmp .gt 45, 3) := by decide +kernel
theorem dX0_misses_17 : decode cX0_misses 17 = .ok (.aload_n 0, 1) := by decide +kernel
theorem dX0_misses_18 : decode cX0_misses 18 = .ok (.getfield 9, 3) := by decide +kernel
theorem dX0_misses_21 : decode cX0_misses 21 = .ok (.iload 4, 2) := by decide +kernel
theorem dX0_misses_23 : decode cX0_misses 23 = .ok (.iaload, 1) := by decide +kernel
theorem dX0_misses_24 : decode cX0_misses 24 = .ok (.bipush (-9), 2) := by decide +kernel
theorem dX0_misses_26 : decode cX0_misses 26 = .ok (.if_icmp .eq 27, 3) := by decide +kernel
theorem dX0_misses_29 : decode cX0_misses 29 = .ok (.aload_n 0, 1) := by decide +kernel
theorem dX0_misses_30 : decode cX0_misses 30 = .ok (.iload_n 1, 1) := by decide +kernel
theorem dX0_misses_31 : decode cX0_misses 31 = .ok (.iload 4, 2) := by decide +kernel
theorem dX0_misses_33 : decode cX0_misses 33 = .ok (.aload_n 0, 1) := by decide +kernel
theorem dX0_misses_34 : decode cX0_misses 34 = .ok (.getfield 9, 3) := by decide +kernel
theorem dX0_misses_37 : decode cX0_misses 37 = .ok (.invokevirtual 66, 3) := by decide +kernel
theorem dX0_misses_40 : decode cX0_misses 40 = .ok (.aload_n 0, 1) := by decide +kernel
theorem dX0_misses_41 : decode cX0_misses 41 = .ok (.getfield 9, 3) := by decide +kernel
theorem dX0_misses_44 : decode cX0_misses 44 = .ok (.iload 4, 2) := by decide +kernel
theorem dX0_misses_46 : decode cX0_misses 46 = .ok (.iaload, 1) := by decide +kernel
theorem dX0_misses_47 : decode cX0_misses 47 = .ok (.if_icmp .eq 6, 3) := by decide +kernel
theorem dX0_misses_50 : decode cX0_misses 50 = .ok (.iinc 3 1, 3) := by decide +kernel
theorem dX0_misses_53 : decode cX0_misses 53 = .ok (.iinc 4 1, 3) := by decide +kernel
theorem dX0_misses_56 : decode cX0_misses 56 = .ok (.goto (-51), 3) := by decide +kernel
theorem dX0_misses_59 : decode cX0_misses 59 = .ok (.iload_n 3, 1) := by decide +kernel
theorem dX0_misses_60 : decode cX0_misses 60 = .ok (.ireturn, 1) := by decide +kernel
theorem dX0_fitting_0 : decode cX0_fitting 0 = .ok (.aload_n 0, 1) := by decide +kernel
theorem dX0_fitting_1 : decode cX0_fitting 1 = .ok (.iload_n 1, 1) := by decide +kernel
theorem dX0_fitting_2 : decode cX0_fitting 2 = .ok (.iload_n 2, 1) := by decide +kernel
theorem dX0_fitting_3 : decode cX0_fitting 3 = .ok (.invokevirtual 69, 3) := by decide +kernel
theorem dX0_fitting_6 : decode cX0_fitting 6 = .ok (.iload_n 2, 1) := by decide +kernel
theorem dX0_fitting_7 : decode cX0_fitting 7 = .ok (.if_icmp .gt 7, 3) := by decide +kernel
theorem dX0_fitting_10 : decode cX0_fitting 10 = .ok (.iconst 1, 1) := by decide +kernel
theorem dX0_fitting_11 : decode cX0_fitting 11 = .ok (.goto 4, 3) := by decide +kernel
theorem dX0_fitting_14 : decode cX0_fitting 14 = .ok (.iconst 0, 1) := by decide +kernel
theorem dX0_fitting_15 : decode cX0_fitting 15 = .ok (.ireturn, 1) := by decide +kernel
theorem dX0_plainestRule_0 : decode cX0_plainestRule 0 = .ok (.bipush (-3), 2) := by decide +kernel
theorem dX0_plainestRule_2 : decode cX0_plainestRule 2 = .ok (.istore_n 3, 1) := by decide +kernel
theorem dX0_plainestRule_3 : decode cX0_plainestRule 3 = .ok (.iload_n 2, 1) := by decide +kernel
theorem dX0_plainestRule_4 : decode cX0_plainestRule 4 = .ok (.istore 4, 2) := by decide +kernel
theorem dX0_plainestRule_6 : decode cX0_plainestRule 6 = .ok (.iconst 0, 1) := by decide +kernel
theorem dX0_plainestRule_7 : decode cX0_plainestRule 7 = .ok (.istore 5, 2) := by decide +kernel
theorem dX0_plainestRule_9 : decode cX0_plainestRule 9 = .ok (.iload 5, 2) := by decide +kernel
theorem dX0_plainestRule_11 : decode cX0_plainestRule 11 = .ok (.sipush 600, 3) := by decide +kernel
theorem dX0_plainestRule_14 : decode cX0_plainestRule 14 = .ok (.if_icmp .ge 39, 3) := by decide +kernel
theorem dX0_plainestRule_17 : decode cX0_plainestRule 17 = .ok (.iload 5, 2) := by decide +kernel
theorem dX0_plainestRule_19 : decode cX0_plainestRule 19 = .ok (.invokestatic 72, 3) := by decide +kernel
theorem dX0_plainestRule_22 : decode cX0_plainestRule 22 = .ok (.iload 4, 2) := by decide +kernel
theorem dX0_plainestRule_24 : decode cX0_plainestRule 24 = .ok (.if_icmp .ge 23, 3) := by decide +kernel
theorem dX0_plainestRule_27 : decode cX0_plainestRule 27 = .ok (.aload_n 0, 1) := by decide +kernel
theorem dX0_plainestRule_28 : decode cX0_plainestRule 28 = .ok (.iload 5, 2) := by decide +kernel
theorem dX0_plainestRule_30 : decode cX0_plainestRule 30 = .ok (.iload_n 1, 1) := by decide +kernel
theorem dX0_plainestRule_31 : decode cX0_plainestRule 31 = .ok (.invokevirtual 75, 3) := by decide +kernel
theorem dX0_plainestRule_34 : decode cX0_plainestRule 34 = .ok (.ifCond .eq 13, 3) := by decide +kernel
theorem dX0_plainestRule_37 : decode cX0_plainestRule 37 = .ok (.iload 5, 2) := by decide +kernel
theorem dX0_plainestRule_39 : decode cX0_plainestRule 39 = .ok (.istore_n 3, 1) := by decide +kernel
theorem dX0_plainestRule_40 : decode cX0_plainestRule 40 = .ok (.iload 5, 2) := by decide +kernel
theorem dX0_plainestRule_42 : decode cX0_plainestRule 42 = .ok (.invokestatic 72, 3) := by decide +kernel
theorem dX0_plainestRule_45 : decode cX0_plainestRule 45 = .ok (.istore 4, 2) := by decide +kernel
theorem dX0_plainestRule_47 : decode cX0_plainestRule 47 = .ok (.iinc 5 1, 3) := by decide +kernel
theorem dX0_plainestRule_50 : decode cX0_plainestRule 50 = .ok (.goto (-41), 3) := by decide +kernel
theorem dX0_plainestRule_53 : decode cX0_plainestRule 53 = .ok (.iload_n 3, 1) := by decide +kernel
theorem dX0_plainestRule_54 : decode cX0_plainestRule 54 = .ok (.ireturn, 1) := by decide +kernel
theorem dX0_longestRun_0 : decode cX0_longestRun 0 = .ok (.iconst 0, 1) := by decide +kernel
theorem dX0_longestRun_1 : decode cX0_longestRun 1 = .ok (.istore_n 2, 1) := by decide +kernel
theorem dX0_longestRun_2 : decode cX0_longestRun 2 = .ok (.iconst 0, 1) := by decide +kernel
theorem dX0_longestRun_3 : decode cX0_longestRun 3 = .ok (.istore_n 3, 1) := by decide +kernel
theorem dX0_longestRun_4 : decode cX0_longestRun 4 = .ok (.iconst 0, 1) := by decide +kernel
theorem dX0_longestRun_5 : decode cX0_longestRun 5 = .ok (.istore 4, 2) := by decide +kernel
theorem dX0_longestRun_7 : decode cX0_longestRun 7 = .ok (.iload 4, 2) := by decide +kernel
theorem dX0_longestRun_9 : decode cX0_longestRun 9 = .ok (.bipush 24, 2) := by decide +kernel
theorem dX0_longestRun_11 : decode cX0_longestRun 11 = .ok (.if_icmp .ge 56, 3) := by decide +kernel
theorem dX0_longestRun_14 : decode cX0_longestRun 14 = .ok (.aload_n 0, 1) := by decide +kernel
theorem dX0_longestRun_15 : decode cX0_longestRun 15 = .ok (.getfield 9, 3) := by decide +kernel
theorem dX0_longestRun_18 : decode cX0_longestRun 18 = .ok (.iload 4, 2) := by decide +kernel
theorem dX0_longestRun_20 : decode cX0_longestRun 20 = .ok (.iaload, 1) := by decide +kernel
theorem dX0_longestRun_21 : decode cX0_longestRun 21 = .ok (.bipush (-9), 2) := by decide +kernel
theorem dX0_longestRun_23 : decode cX0_longestRun 23 = .ok (.if_icmp .eq 38, 3) := by decide +kernel
theorem dX0_longestRun_26 : decode cX0_longestRun 26 = .ok (.aload_n 0, 1) := by decide +kernel
theorem dX0_longestRun_27 : decode cX0_longestRun 27 = .ok (.iload_n 1, 1) := by decide +kernel
theorem dX0_longestRun_28 : decode cX0_longestRun 28 = .ok (.iload 4, 2) := by decide +kernel
theorem dX0_longestRun_30 : decode cX0_longestRun 30 = .ok (.aload_n 0, 1) := by decide +kernel
theorem dX0_longestRun_31 : decode cX0_longestRun 31 = .ok (.getfield 9, 3) := by decide +kernel
theorem dX0_longestRun_34 : decode cX0_longestRun 34 = .ok (.invokevirtual 66, 3) := by decide +kernel
theorem dX0_longestRun_37 : decode cX0_longestRun 37 = .ok (.aload_n 0, 1) := by decide +kernel
theorem dX0_longestRun_38 : decode cX0_longestRun 38 = .ok (.getfield 9, 3) := by decide +kernel
theorem dX0_longestRun_41 : decode cX0_longestRun 41 = .ok (.iload 4, 2) := by decide +kernel
theorem dX0_longestRun_43 : decode cX0_longestRun 43 = .ok (.iaload, 1) := by decide +kernel
theorem dX0_longestRun_44 : decode cX0_longestRun 44 = .ok (.if_icmp .ne 9, 3) := by decide +kernel
theorem dX0_longestRun_47 : decode cX0_longestRun 47 = .ok (.iload_n 3, 1) := by decide +kernel
theorem dX0_longestRun_48 : decode cX0_longestRun 48 = .ok (.iconst 1, 1) := by decide +kernel
theorem dX0_longestRun_49 : decode cX0_longestRun 49 = .ok (.iadd, 1) := by decide +kernel
theorem dX0_longestRun_50 : decode cX0_longestRun 50 = .ok (.goto 4, 3) := by decide +kernel
theorem dX0_longestRun_53 : decode cX0_longestRun 53 = .ok (.iconst 0, 1) := by decide +kernel
theorem dX0_longestRun_54 : decode cX0_longestRun 54 = .ok (.istore_n 3, 1) := by decide +kernel
theorem dX0_longestRun_55 : decode cX0_longestRun 55 = .ok (.iload_n 2, 1) := by decide +kernel
theorem dX0_longestRun_56 : decode cX0_longestRun 56 = .ok (.iload_n 3, 1) := by decide +kernel
theorem dX0_longestRun_57 : decode cX0_longestRun 57 = .ok (.invokestatic 79, 3) := by decide +kernel
theorem dX0_longestRun_60 : decode cX0_longestRun 60 = .ok (.istore_n 2, 1) := by decide +kernel
theorem dX0_longestRun_61 : decode cX0_longestRun 61 = .ok (.iinc 4 1, 3) := by decide +kernel
theorem dX0_longestRun_64 : decode cX0_longestRun 64 = .ok (.goto (-57), 3) := by decide +kernel
theorem dX0_longestRun_67 : decode cX0_longestRun 67 = .ok (.iload_n 2, 1) := by decide +kernel
theorem dX0_longestRun_68 : decode cX0_longestRun 68 = .ok (.ireturn, 1) := by decide +kernel
theorem dX0_yearOfRun_0 : decode cX0_yearOfRun 0 = .ok (.iconst 0, 1) := by decide +kernel
theorem dX0_yearOfRun_1 : decode cX0_yearOfRun 1 = .ok (.istore_n 3, 1) := by decide +kernel
theorem dX0_yearOfRun_2 : decode cX0_yearOfRun 2 = .ok (.iconst 0, 1) := by decide +kernel
theorem dX0_yearOfRun_3 : decode cX0_yearOfRun 3 = .ok (.istore 4, 2) := by decide +kernel
theorem dX0_yearOfRun_5 : decode cX0_yearOfRun 5 = .ok (.iload 4, 2) := by decide +kernel
theorem dX0_yearOfRun_7 : decode cX0_yearOfRun 7 = .ok (.bipush 24, 2) := by decide +kernel
theorem dX0_yearOfRun_9 : decode cX0_yearOfRun 9 = .ok (.if_icmp .ge 58, 3) := by decide +kernel
theorem dX0_yearOfRun_12 : decode cX0_yearOfRun 12 = .ok (.aload_n 0, 1) := by decide +kernel
theorem dX0_yearOfRun_13 : decode cX0_yearOfRun 13 = .ok (.getfield 9, 3) := by decide +kernel
theorem dX0_yearOfRun_16 : decode cX0_yearOfRun 16 = .ok (.iload 4, 2) := by decide +kernel
theorem dX0_yearOfRun_18 : decode cX0_yearOfRun 18 = .ok (.iaload, 1) := by decide +kernel
theorem dX0_yearOfRun_19 : decode cX0_yearOfRun 19 = .ok (.bipush (-9), 2) := by decide +kernel
theorem dX0_yearOfRun_21 : decode cX0_yearOfRun 21 = .ok (.if_icmp .eq 40, 3) := by decide +kernel
theorem dX0_yearOfRun_24 : decode cX0_yearOfRun 24 = .ok (.aload_n 0, 1) := by decide +kernel
theorem dX0_yearOfRun_25 : decode cX0_yearOfRun 25 = .ok (.iload_n 1, 1) := by decide +kernel
theorem dX0_yearOfRun_26 : decode cX0_yearOfRun 26 = .ok (.iload 4, 2) := by decide +kernel
theorem dX0_yearOfRun_28 : decode cX0_yearOfRun 28 = .ok (.aload_n 0, 1) := by decide +kernel
theorem dX0_yearOfRun_29 : decode cX0_yearOfRun 29 = .ok (.getfield 9, 3) := by decide +kernel
theorem dX0_yearOfRun_32 : decode cX0_yearOfRun 32 = .ok (.invokevirtual 66, 3) := by decide +kernel
theorem dX0_yearOfRun_35 : decode cX0_yearOfRun 35 = .ok (.aload_n 0, 1) := by decide +kernel
theorem dX0_yearOfRun_36 : decode cX0_yearOfRun 36 = .ok (.getfield 9, 3) := by decide +kernel
theorem dX0_yearOfRun_39 : decode cX0_yearOfRun 39 = .ok (.iload 4, 2) := by decide +kernel
theorem dX0_yearOfRun_41 : decode cX0_yearOfRun 41 = .ok (.iaload, 1) := by decide +kernel
theorem dX0_yearOfRun_42 : decode cX0_yearOfRun 42 = .ok (.if_icmp .ne 9, 3) := by decide +kernel
theorem dX0_yearOfRun_45 : decode cX0_yearOfRun 45 = .ok (.iload_n 3, 1) := by decide +kernel
theorem dX0_yearOfRun_46 : decode cX0_yearOfRun 46 = .ok (.iconst 1, 1) := by decide +kernel
theorem dX0_yearOfRun_47 : decode cX0_yearOfRun 47 = .ok (.iadd, 1) := by decide +kernel
theorem dX0_yearOfRun_48 : decode cX0_yearOfRun 48 = .ok (.goto 4, 3) := by decide +kernel
theorem dX0_yearOfRun_51 : decode cX0_yearOfRun 51 = .ok (.iconst 0, 1) := by decide +kernel
theorem dX0_yearOfRun_52 : decode cX0_yearOfRun 52 = .ok (.istore_n 3, 1) := by decide +kernel
theorem dX0_yearOfRun_53 : decode cX0_yearOfRun 53 = .ok (.iload_n 3, 1) := by decide +kernel
theorem dX0_yearOfRun_54 : decode cX0_yearOfRun 54 = .ok (.iload_n 2, 1) := by decide +kernel
theorem dX0_yearOfRun_55 : decode cX0_yearOfRun 55 = .ok (.if_icmp .ne 6, 3) := by decide +kernel
theorem dX0_yearOfRun_58 : decode cX0_yearOfRun 58 = .ok (.iload 4, 2) := by decide +kernel
theorem dX0_yearOfRun_60 : decode cX0_yearOfRun 60 = .ok (.ireturn, 1) := by decide +kernel
theorem dX0_yearOfRun_61 : decode cX0_yearOfRun 61 = .ok (.iinc 4 1, 3) := by decide +kernel
theorem dX0_yearOfRun_64 : decode cX0_yearOfRun 64 = .ok (.goto (-59), 3) := by decide +kernel
theorem dX0_yearOfRun_67 : decode cX0_yearOfRun 67 = .ok (.bipush (-3), 2) := by decide +kernel
theorem dX0_yearOfRun_69 : decode cX0_yearOfRun 69 = .ok (.ireturn, 1) := by decide +kernel
theorem dX1_init_0 : decode cX1_init 0 = .ok (.aload_n 0, 1) := by decide +kernel
theorem dX1_init_1 : decode cX1_init 1 = .ok (.invokespecial 3, 3) := by decide +kernel
theorem dX1_init_4 : decode cX1_init 4 = .ok (.aload_n 0, 1) := by decide +kernel
theorem dX1_init_5 : decode cX1_init 5 = .ok (.bipush 72, 2) := by decide +kernel
theorem dX1_init_7 : decode cX1_init 7 = .ok (.newarray .int, 2) := by decide +kernel
theorem dX1_init_9 : decode cX1_init 9 = .ok (.putfield 9, 3) := by decide +kernel
theorem dX1_init_12 : decode cX1_init 12 = .ok (.aload_n 0, 1) := by decide +kernel
theorem dX1_init_13 : decode cX1_init 13 = .ok (.iconst 0, 1) := by decide +kernel
theorem dX1_init_14 : decode cX1_init 14 = .ok (.putfield 15, 3) := by decide +kernel
theorem dX1_init_17 : decode cX1_init 17 = .ok (.return_, 1) := by decide +kernel
theorem dX1_add_0 : decode cX1_add 0 = .ok (.aload_n 0, 1) := by decide +kernel
theorem dX1_add_1 : decode cX1_add 1 = .ok (.getfield 15, 3) := by decide +kernel
theorem dX1_add_4 : decode cX1_add 4 = .ok (.bipush 24, 2) := by decide +kernel
theorem dX1_add_6 : decode cX1_add 6 = .ok (.if_icmp .ge 53, 3) := by decide +kernel
theorem dX1_add_9 : decode cX1_add 9 = .ok (.aload_n 0, 1) := by decide +kernel
theorem dX1_add_10 : decode cX1_add 10 = .ok (.getfield 9, 3) := by decide +kernel
theorem dX1_add_13 : decode cX1_add 13 = .ok (.aload_n 0, 1) := by decide +kernel
theorem dX1_add_14 : decode cX1_add 14 = .ok (.getfield 15, 3) := by decide +kernel
theorem dX1_add_17 : decode cX1_add 17 = .ok (.iconst 3, 1) := by decide +kernel
theorem dX1_add_18 : decode cX1_add 18 = .ok (.imul, 1) := by decide +kernel
theorem dX1_add_19 : decode cX1_add 19 = .ok (.iload_n 1, 1) := by decide +kernel
theorem dX1_add_20 : decode cX1_add 20 = .ok (.iastore, 1) := by decide +kernel
theorem dX1_add_21 : decode cX1_add 21 = .ok (.aload_n 0, 1) := by decide +kernel
theorem dX1_add_22 : decode cX1_add 22 = .ok (.getfield 9, 3) := by decide +kernel
theorem dX1_add_25 : decode cX1_add 25 = .ok (.aload_n 0, 1) := by decide +kernel
theorem dX1_add_26 : decode cX1_add 26 = .ok (.getfield 15, 3) := by decide +kernel
theorem dX1_add_29 : decode cX1_add 29 = .ok (.iconst 3, 1) := by decide +kernel
theorem dX1_add_30 : decode cX1_add 30 = .ok (.imul, 1) := by decide +kernel
theorem dX1_add_31 : decode cX1_add 31 = .ok (.iconst 1, 1) := by decide +kernel
theorem dX1_add_32 : decode cX1_add 32 = .ok (.iadd, 1) := by decide +kernel
theorem dX1_add_33 : decode cX1_add 33 = .ok (.iload_n 2, 1) := by decide +kernel
theorem dX1_add_34 : decode cX1_add 34 = .ok (.iastore, 1) := by decide +kernel
theorem dX1_add_35 : decode cX1_add 35 = .ok (.aload_n 0, 1) := by decide +kernel
theorem dX1_add_36 : decode cX1_add 36 = .ok (.getfield 9, 3) := by decide +kernel
theorem dX1_add_39 : decode cX1_add 39 = .ok (.aload_n 0, 1) := by decide +kernel
theorem dX1_add_40 : decode cX1_add 40 = .ok (.getfield 15, 3) := by decide +kernel
theorem dX1_add_43 : decode cX1_add 43 = .ok (.iconst 3, 1) := by decide +kernel
theorem dX1_add_44 : decode cX1_add 44 = .ok (.imul, 1) := by decide +kernel
theorem dX1_add_45 : decode cX1_add 45 = .ok (.iconst 2, 1) := by decide +kernel
theorem dX1_add_46 : decode cX1_add 46 = .ok (.iadd, 1) := by decide +kernel
theorem dX1_add_47 : decode cX1_add 47 = .ok (.iload_n 3, 1) := by decide +kernel
theorem dX1_add_48 : decode cX1_add 48 = .ok (.iastore, 1) := by decide +kernel
theorem dX1_add_49 : decode cX1_add 49 = .ok (.aload_n 0, 1) := by decide +kernel
theorem dX1_add_50 : decode cX1_add 50 = .ok (.dup, 1) := by decide +kernel
theorem dX1_add_51 : decode cX1_add 51 = .ok (.getfield 15, 3) := by decide +kernel
theorem dX1_add_54 : decode cX1_add 54 = .ok (.iconst 1, 1) := by decide +kernel
theorem dX1_add_55 : decode cX1_add 55 = .ok (.iadd, 1) := by decide +kernel
theorem dX1_add_56 : decode cX1_add 56 = .ok (.putfield 15, 3) := by decide +kernel
theorem dX1_add_59 : decode cX1_add 59 = .ok (.return_, 1) := by decide +kernel
theorem dX1_isCell_0 : decode cX1_isCell 0 = .ok (.iload_n 1, 1) := by decide +kernel
theorem dX1_isCell_1 : decode cX1_isCell 1 = .ok (.ifCond .lt 30, 3) := by decide +kernel
theorem dX1_isCell_4 : decode cX1_isCell 4 = .ok (.iload_n 1, 1) := by decide +kernel
theorem dX1_isCell_5 : decode cX1_isCell 5 = .ok (.aload_n 0, 1) := by decide +kernel
theorem dX1_isCell_6 : decode cX1_isCell 6 = .ok (.getfield 15, 3) := by decide +kernel
theorem dX1_isCell_9 : decode cX1_isCell 9 = .ok (.if_icmp .ge 22, 3) := by decide +kernel
theorem dX1_isCell_12 : decode cX1_isCell 12 = .ok (.iload_n 1, 1) := by decide +kernel
theorem dX1_isCell_13 : decode cX1_isCell 13 = .ok (.bipush 24, 2) := by decide +kernel
theorem dX1_isCell_15 : decode cX1_isCell 15 = .ok (.if_icmp .ge 16, 3) := by decide +kernel
theorem dX1_isCell_18 : decode cX1_isCell 18 = .ok (.iload_n 2, 1) := by decide +kernel
theorem dX1_isCell_19 : decode cX1_isCell 19 = .ok (.ifCond .lt 12, 3) := by decide +kernel
theorem dX1_isCell_22 : decode cX1_isCell 22 = .ok (.iload_n 2, 1) := by decide +kernel
theorem dX1_isCell_23 : decode cX1_isCell 23 = .ok (.iconst 3, 1) := by decide +kernel
theorem dX1_isCell_24 : decode cX1_isCell 24 = .ok (.if_icmp .ge 7, 3) := by decide +kernel
theorem dX1_isCell_27 : decode cX1_isCell 27 = .ok (.iconst 1, 1) := by decide +kernel
theorem dX1_isCell_28 : decode cX1_isCell 28 = .ok (.goto 4, 3) := by decide +kernel
theorem dX1_isCell_31 : decode cX1_isCell 31 = .ok (.iconst 0, 1) := by decide +kernel
theorem dX1_isCell_32 : decode cX1_isCell 32 = .ok (.ireturn, 1) := by decide +kernel
theorem dX1_is_0 : decode cX1_is 0 = .ok (.aload_n 0, 1) := by decide +kernel
theorem dX1_is_1 : decode cX1_is 1 = .ok (.iload_n 1, 1) := by decide +kernel
theorem dX1_is_2 : decode cX1_is 2 = .ok (.iconst 0, 1) := by decide +kernel
theorem dX1_is_3 : decode cX1_is 3 = .ok (.invokevirtual 19, 3) := by decide +kernel
theorem dX1_is_6 : decode cX1_is 6 = .ok (.ifCond .eq 48, 3) := by decide +kernel
theorem dX1_is_9 : decode cX1_is 9 = .ok (.aload_n 0, 1) := by decide +kernel
theorem dX1_is_10 : decode cX1_is 10 = .ok (.getfield 9, 3) := by decide +kernel
theorem dX1_is_13 : decode cX1_is 13 = .ok (.iload_n 1, 1) := by decide +kernel
theorem dX1_is_14 : decode cX1_is 14 = .ok (.iconst 3, 1) := by decide +kernel
theorem dX1_is_15 : decode cX1_is 15 = .ok (.imul, 1) := by decide +kernel
theorem dX1_is_16 : decode cX1_is 16 = .ok (.iaload, 1) := by decide +kernel
theorem dX1_is_17 : decode cX1_is 17 = .ok (.iload_n 2, 1) := by decide +kernel
theorem dX1_is_18 : decode cX1_is 18 = .ok (.if_icmp .ne 36, 3) := by decide +kernel
theorem dX1_is_21 : decode cX1_is 21 = .ok (.aload_n 0, 1) := by decide +kernel
theorem dX1_is_22 : decode cX1_is 22 = .ok (.getfield 9, 3) := by decide +kernel
theorem dX1_is_25 : decode cX1_is 25 = .ok (.iload_n 1, 1) := by decide +kernel
theorem dX1_is_26 : decode cX1_is 26 = .ok (.iconst 3, 1) := by decide +kernel
theorem dX1_is_27 : decode cX1_is 27 = .ok (.imul, 1) := by decide +kernel
theorem dX1_is_28 : decode cX1_is 28 = .ok (.iconst 1, 1) := by decide +kernel
theorem dX1_is_29 : decode cX1_is 29 = .ok (.iadd, 1) := by decide +kernel
theorem dX1_is_30 : decode cX1_is 30 = .ok (.iaload, 1) := by decide +kernel
theorem dX1_is_31 : decode cX1_is 31 = .ok (.iload_n 3, 1) := by decide +kernel
theorem dX1_is_32 : decode cX1_is 32 = .ok (.if_icmp .ne 22, 3) := by decide +kernel
theorem dX1_is_35 : decode cX1_is 35 = .ok (.aload_n 0, 1) := by decide +kernel
theorem dX1_is_36 : decode cX1_is 36 = .ok (.getfield 9, 3) := by decide +kernel
theorem dX1_is_39 : decode cX1_is 39 = .ok (.iload_n 1, 1) := by decide +kernel
theorem dX1_is_40 : decode cX1_is 40 = .ok (.iconst 3, 1) := by decide +kernel
theorem dX1_is_41 : decode cX1_is 41 = .ok (.imul, 1) := by decide +kernel
theorem dX1_is_42 : decode cX1_is 42 = .ok (.iconst 2, 1) := by decide +kernel
theorem dX1_is_43 : decode cX1_is 43 = .ok (.iadd, 1) := by decide +kernel
theorem dX1_is_44 : decode cX1_is 44 = .ok (.iaload, 1) := by decide +kernel
theorem dX1_is_45 : decode cX1_is 45 = .ok (.iload 4, 2) := by decide +kernel
theorem dX1_is_47 : decode cX1_is 47 = .ok (.if_icmp .ne 7, 3) := by decide +kernel
theorem dX1_is_50 : decode cX1_is 50 = .ok (.iconst 1, 1) := by decide +kernel
theorem dX1_is_51 : decode cX1_is 51 = .ok (.goto 4, 3) := by decide +kernel
theorem dX1_is_54 : decode cX1_is 54 = .ok (.iconst 0, 1) := by decide +kernel
theorem dX1_is_55 : decode cX1_is 55 = .ok (.ireturn, 1) := by decide +kernel
theorem dX2_init_0 : decode cX2_init 0 = .ok (.aload_n 0, 1) := by decide +kernel
theorem dX2_init_1 : decode cX2_init 1 = .ok (.invokespecial 3, 3) := by decide +kernel
theorem dX2_init_4 : decode cX2_init 4 = .ok (.aload_n 0, 1) := by decide +kernel
theorem dX2_init_5 : decode cX2_init 5 = .ok (.iconst 4, 1) := by decide +kernel
theorem dX2_init_6 : decode cX2_init 6 = .ok (.newarray .int, 2) := by decide +kernel
theorem dX2_init_8 : decode cX2_init 8 = .ok (.dup, 1) := by decide +kernel
theorem dX2_init_9 : decode cX2_init 9 = .ok (.iconst 0, 1) := by decide +kernel
theorem dX2_init_10 : decode cX2_init 10 = .ok (.iconst (-1), 1) := by decide +kernel
theorem dX2_init_11 : decode cX2_init 11 = .ok (.iastore, 1) := by decide +kernel
theorem dX2_init_12 : decode cX2_init 12 = .ok (.dup, 1) := by decide +kernel
theorem dX2_init_13 : decode cX2_init 13 = .ok (.iconst 1, 1) := by decide +kernel
theorem dX2_init_14 : decode cX2_init 14 = .ok (.iconst (-1), 1) := by decide +kernel
theorem dX2_init_15 : decode cX2_init 15 = .ok (.iastore, 1) := by decide +kernel
theorem dX2_init_16 : decode cX2_init 16 = .ok (.dup, 1) := by decide +kernel
theorem dX2_init_17 : decode cX2_init 17 = .ok (.iconst 2, 1) := by decide +kernel
theorem dX2_init_18 : decode cX2_init 18 = .ok (.iconst (-1), 1) := by decide +kernel
theorem dX2_init_19 : decode cX2_init 19 = .ok (.iastore, 1) := by decide +kernel
theorem dX2_init_20 : decode cX2_init 20 = .ok (.dup, 1) := by decide +kernel
theorem dX2_init_21 : decode cX2_init 21 = .ok (.iconst 3, 1) := by decide +kernel
theorem dX2_init_22 : decode cX2_init 22 = .ok (.iconst (-1), 1) := by decide +kernel
theorem dX2_init_23 : decode cX2_init 23 = .ok (.iastore, 1) := by decide +kernel
theorem dX2_init_24 : decode cX2_init 24 = .ok (.putfield 9, 3) := by decide +kernel
theorem dX2_init_27 : decode cX2_init 27 = .ok (.aload_n 0, 1) := by decide +kernel
theorem dX2_init_28 : decode cX2_init 28 = .ok (.iconst 4, 1) := by decide +kernel
theorem dX2_init_29 : decode cX2_init 29 = .ok (.newarray .int, 2) := by decide +kernel
theorem dX2_init_31 : decode cX2_init 31 = .ok (.putfield 15, 3) := by decide +kernel
theorem dX2_init_34 : decode cX2_init 34 = .ok (.aload_n 0, 1) := by decide +kernel
theorem dX2_init_35 : decode cX2_init 35 = .ok (.sipush 160, 3) := by decide +kernel
theorem dX2_init_38 : decode cX2_init 38 = .ok (.newarray .long, 2) := by decide +kernel
theorem dX2_init_40 : decode cX2_init 40 = .ok (.putfield 18, 3) := by decide +kernel
theorem dX2_init_43 : decode cX2_init 43 = .ok (.return_, 1) := by decide +kernel
theorem dX2_renew_0 : decode cX2_renew 0 = .ok (.iload_n 1, 1) := by decide +kernel
theorem dX2_renew_1 : decode cX2_renew 1 = .ok (.ifCond .lt 8, 3) := by decide +kernel
theorem dX2_renew_4 : decode cX2_renew 4 = .ok (.iload_n 1, 1) := by decide +kernel
theorem dX2_renew_5 : decode cX2_renew 5 = .ok (.iconst 4, 1) := by decide +kernel
theorem dX2_renew_6 : decode cX2_renew 6 = .ok (.if_icmp .lt 4, 3) := by decide +kernel
theorem dX2_renew_9 : decode cX2_renew 9 = .ok (.return_, 1) := by decide +kernel
theorem dX2_renew_10 : decode cX2_renew 10 = .ok (.aload_n 0, 1) := by decide +kernel
theorem dX2_renew_11 : decode cX2_renew 11 = .ok (.getfield 9, 3) := by decide +kernel
theorem dX2_renew_14 : decode cX2_renew 14 = .ok (.iload_n 1, 1) := by decide +kernel
theorem dX2_renew_15 : decode cX2_renew 15 = .ok (.iload_n 2, 1) := by decide +kernel
theorem dX2_renew_16 : decode cX2_renew 16 = .ok (.iastore, 1) := by decide +kernel
theorem dX2_renew_17 : decode cX2_renew 17 = .ok (.aload_n 0, 1) := by decide +kernel
theorem dX2_renew_18 : decode cX2_renew 18 = .ok (.getfield 15, 3) := by decide +kernel
theorem dX2_renew_21 : decode cX2_renew 21 = .ok (.iload_n 1, 1) := by decide +kernel
theorem dX2_renew_22 : decode cX2_renew 22 = .ok (.iload_n 3, 1) := by decide +kernel
theorem dX2_renew_23 : decode cX2_renew 23 = .ok (.iastore, 1) := by decide +kernel
theorem dX2_renew_24 : decode cX2_renew 24 = .ok (.iconst 0, 1) := by decide +kernel
theorem dX2_renew_25 : decode cX2_renew 25 = .ok (.istore 4, 2) := by decide +kernel
theorem dX2_renew_27 : decode cX2_renew 27 = .ok (.iload 4, 2) := by decide +kernel
theorem dX2_renew_29 : decode cX2_renew 29 = .ok (.bipush 40, 2) := by decide +kernel
theorem dX2_renew_31 : decode cX2_renew 31 = .ok (.if_icmp .ge 22, 3) := by decide +kernel
theorem dX2_renew_34 : decode cX2_renew 34 = .ok (.aload_n 0, 1) := by decide +kernel
theorem dX2_renew_35 : decode cX2_renew 35 = .ok (.getfield 18, 3) := by decide +kernel
theorem dX2_renew_38 : decode cX2_renew 38 = .ok (.iload_n 1, 1) := by decide +kernel
theorem dX2_renew_39 : decode cX2_renew 39 = .ok (.bipush 40, 2) := by decide +kernel
theorem dX2_renew_41 : decode cX2_renew 41 = .ok (.imul, 1) := by decide +kernel
theorem dX2_renew_42 : decode cX2_renew 42 = .ok (.iload 4, 2) := by decide +kernel
theorem dX2_renew_44 : decode cX2_renew 44 = .ok (.iadd, 1) := by decide +kernel
theorem dX2_renew_45 : decode cX2_renew 45 = .ok (.lconst 0, 1) := by decide +kernel
theorem dX2_renew_46 : decode cX2_renew 46 = .ok (.lastore, 1) := by decide +kernel
theorem dX2_renew_47 : decode cX2_renew 47 = .ok (.iinc 4 1, 3) := by decide +kernel
theorem dX2_renew_50 : decode cX2_renew 50 = .ok (.goto (-23), 3) := by decide +kernel
theorem dX2_renew_53 : decode cX2_renew 53 = .ok (.return_, 1) := by decide +kernel
theorem dX3_init_0 : decode cX3_init 0 = .ok (.aload_n 0, 1) := by decide +kernel
theorem dX3_init_1 : decode cX3_init 1 = .ok (.invokespecial 3, 3) := by decide +kernel
theorem dX3_init_4 : decode cX3_init 4 = .ok (.aload_n 0, 1) := by decide +kernel
theorem dX3_init_5 : decode cX3_init 5 = .ok (.iconst 4, 1) := by decide +kernel
theorem dX3_init_6 : decode cX3_init 6 = .ok (.newarray .int, 2) := by decide +kernel
theorem dX3_init_8 : decode cX3_init 8 = .ok (.dup, 1) := by decide +kernel
theorem dX3_init_9 : decode cX3_init 9 = .ok (.iconst 0, 1) := by decide +kernel
theorem dX3_init_10 : decode cX3_init 10 = .ok (.iconst (-1), 1) := by decide +kernel
theorem dX3_init_11 : decode cX3_init 11 = .ok (.iastore, 1) := by decide +kernel
theorem dX3_init_12 : decode cX3_init 12 = .ok (.dup, 1) := by decide +kernel
theorem dX3_init_13 : decode cX3_init 13 = .ok (.iconst 1, 1) := by decide +kernel
theorem dX3_init_14 : decode cX3_init 14 = .ok (.iconst (-1), 1) := by decide +kernel
theorem dX3_init_15 : decode cX3_init 15 = .ok (.iastore, 1) := by decide +kernel
theorem dX3_init_16 : decode cX3_init 16 = .ok (.dup, 1) := by decide +kernel
theorem dX3_init_17 : decode cX3_init 17 = .ok (.iconst 2, 1) := by decide +kernel
theorem dX3_init_18 : decode cX3_init 18 = .ok (.iconst (-1), 1) := by decide +kernel
theorem dX3_init_19 : decode cX3_init 19 = .ok (.iastore, 1) := by decide +kernel
theorem dX3_init_20 : decode cX3_init 20 = .ok (.dup, 1) := by decide +kernel
theorem dX3_init_21 : decode cX3_init 21 = .ok (.iconst 3, 1) := by decide +kernel
theorem dX3_init_22 : decode cX3_init 22 = .ok (.iconst (-1), 1) := by decide +kernel
theorem dX3_init_23 : decode cX3_init 23 = .ok (.iastore, 1) := by decide +kernel
theorem dX3_init_24 : decode cX3_init 24 = .ok (.putfield 9, 3) := by decide +kernel
theorem dX3_init_27 : decode cX3_init 27 = .ok (.aload_n 0, 1) := by decide +kernel
theorem dX3_init_28 : decode cX3_init 28 = .ok (.iconst 4, 1) := by decide +kernel
theorem dX3_init_29 : decode cX3_init 29 = .ok (.newarray .int, 2) := by decide +kernel
theorem dX3_init_31 : decode cX3_init 31 = .ok (.dup, 1) := by decide +kernel
theorem dX3_init_32 : decode cX3_init 32 = .ok (.iconst 0, 1) := by decide +kernel
theorem dX3_init_33 : decode cX3_init 33 = .ok (.iconst (-1), 1) := by decide +kernel
theorem dX3_init_34 : decode cX3_init 34 = .ok (.iastore, 1) := by decide +kernel
theorem dX3_init_35 : decode cX3_init 35 = .ok (.dup, 1) := by decide +kernel
theorem dX3_init_36 : decode cX3_init 36 = .ok (.iconst 1, 1) := by decide +kernel
theorem dX3_init_37 : decode cX3_init 37 = .ok (.iconst (-1), 1) := by decide +kernel
theorem dX3_init_38 : decode cX3_init 38 = .ok (.iastore, 1) := by decide +kernel
theorem dX3_init_39 : decode cX3_init 39 = .ok (.dup, 1) := by decide +kernel
theorem dX3_init_40 : decode cX3_init 40 = .ok (.iconst 2, 1) := by decide +kernel
theorem dX3_init_41 : decode cX3_init 41 = .ok (.iconst (-1), 1) := by decide +kernel
theorem dX3_init_42 : decode cX3_init 42 = .ok (.iastore, 1) := by decide +kernel
theorem dX3_init_43 : decode cX3_init 43 = .ok (.dup, 1) := by decide +kernel
theorem dX3_init_44 : decode cX3_init 44 = .ok (.iconst 3, 1) := by decide +kernel
theorem dX3_init_45 : decode cX3_init 45 = .ok (.iconst (-1), 1) := by decide +kernel
theorem dX3_init_46 : decode cX3_init 46 = .ok (.iastore, 1) := by decide +kernel
theorem dX3_init_47 : decode cX3_init 47 = .ok (.putfield 15, 3) := by decide +kernel
theorem dX3_init_50 : decode cX3_init 50 = .ok (.aload_n 0, 1) := by decide +kernel
theorem dX3_init_51 : decode cX3_init 51 = .ok (.iconst 4, 1) := by decide +kernel
theorem dX3_init_52 : decode cX3_init 52 = .ok (.newarray .int, 2) := by decide +kernel
theorem dX3_init_54 : decode cX3_init 54 = .ok (.putfield 18, 3) := by decide +kernel
theorem dX3_init_57 : decode cX3_init 57 = .ok (.return_, 1) := by decide +kernel
theorem dX3_clear_0 : decode cX3_clear 0 = .ok (.iload_n 1, 1) := by decide +kernel
theorem dX3_clear_1 : decode cX3_clear 1 = .ok (.ifCond .lt 29, 3) := by decide +kernel
theorem dX3_clear_4 : decode cX3_clear 4 = .ok (.iload_n 1, 1) := by decide +kernel
theorem dX3_clear_5 : decode cX3_clear 5 = .ok (.iconst 4, 1) := by decide +kernel
theorem dX3_clear_6 : decode cX3_clear 6 = .ok (.if_icmp .ge 24, 3) := by decide +kernel
theorem dX3_clear_9 : decode cX3_clear 9 = .ok (.aload_n 0, 1) := by decide +kernel
theorem dX3_clear_10 : decode cX3_clear 10 = .ok (.getfield 9, 3) := by decide +kernel
theorem dX3_clear_13 : decode cX3_clear 13 = .ok (.iload_n 1, 1) := by decide +kernel
theorem dX3_clear_14 : decode cX3_clear 14 = .ok (.iconst (-1), 1) := by decide +kernel
theorem dX3_clear_15 : decode cX3_clear 15 = .ok (.iastore, 1) := by decide +kernel
theorem dX3_clear_16 : decode cX3_clear 16 = .ok (.aload_n 0, 1) := by decide +kernel
theorem dX3_clear_17 : decode cX3_clear 17 = .ok (.getfield 15, 3) := by decide +kernel
theorem dX3_clear_20 : decode cX3_clear 20 = .ok (.iload_n 1, 1) := by decide +kernel
theorem dX3_clear_21 : decode cX3_clear 21 = .ok (.iconst (-1), 1) := by decide +kernel
theorem dX3_clear_22 : decode cX3_clear 22 = .ok (.iastore, 1) := by decide +kernel
theorem dX3_clear_23 : decode cX3_clear 23 = .ok (.aload_n 0, 1) := by decide +kernel
theorem dX3_clear_24 : decode cX3_clear 24 = .ok (.getfield 18, 3) := by decide +kernel
theorem dX3_clear_27 : decode cX3_clear 27 = .ok (.iload_n 1, 1) := by decide +kernel
theorem dX3_clear_28 : decode cX3_clear 28 = .ok (.iconst 0, 1) := by decide +kernel
theorem dX3_clear_29 : decode cX3_clear 29 = .ok (.iastore, 1) := by decide +kernel
theorem dX3_clear_30 : decode cX3_clear 30 = .ok (.return_, 1) := by decide +kernel
theorem dX3_holdRule_0 : decode cX3_holdRule 0 = .ok (.aload_n 0, 1) := by decide +kernel
theorem dX3_holdRule_1 : decode cX3_holdRule 1 = .ok (.iload_n 1, 1) := by decide +kernel
theorem dX3_holdRule_2 : decode cX3_holdRule 2 = .ok (.invokevirtual 21, 3) := by decide +kernel
theorem dX3_holdRule_5 : decode cX3_holdRule 5 = .ok (.iload_n 1, 1) := by decide +kernel
theorem dX3_holdRule_6 : decode cX3_holdRule 6 = .ok (.ifCond .lt 15, 3) := by decide +kernel
theorem dX3_holdRule_9 : decode cX3_holdRule 9 = .ok (.iload_n 1, 1) := by decide +kernel
theorem dX3_holdRule_10 : decode cX3_holdRule 10 = .ok (.iconst 4, 1) := by decide +kernel
theorem dX3_holdRule_11 : decode cX3_holdRule 11 = .ok (.if_icmp .ge 10, 3) := by decide +kernel
theorem dX3_holdRule_14 : decode cX3_holdRule 14 = .ok (.aload_n 0, 1) := by decide +kernel
theorem dX3_holdRule_15 : decode cX3_holdRule 15 = .ok (.getfield 9, 3) := by decide +kernel
theorem dX3_holdRule_18 : decode cX3_holdRule 18 = .ok (.iload_n 1, 1) := by decide +kernel
theorem dX3_holdRule_19 : decode cX3_holdRule 19 = .ok (.iload_n 2, 1) := by decide +kernel
theorem dX3_holdRule_20 : decode cX3_holdRule 20 = .ok (.iastore, 1) := by decide +kernel
theorem dX3_holdRule_21 : decode cX3_holdRule 21 = .ok (.return_, 1) := by decide +kernel
theorem dX3_holdRow_0 : decode cX3_holdRow 0 = .ok (.aload_n 0, 1) := by decide +kernel
theorem dX3_holdRow_1 : decode cX3_holdRow 1 = .ok (.iload_n 1, 1) := by decide +kernel
theorem dX3_holdRow_2 : decode cX3_holdRow 2 = .ok (.invokevirtual 21, 3) := by decide +kernel
theorem dX3_holdRow_5 : decode cX3_holdRow 5 = .ok (.iload_n 1, 1) := by decide +kernel
theorem dX3_holdRow_6 : decode cX3_holdRow 6 = .ok (.ifCond .lt 22, 3) := by decide +kernel
theorem dX3_holdRow_9 : decode cX3_holdRow 9 = .ok (.iload_n 1, 1) := by decide +kernel
theorem dX3_holdRow_10 : decode cX3_holdRow 10 = .ok (.iconst 4, 1) := by decide +kernel
theorem dX3_holdRow_11 : decode cX3_holdRow 11 = .ok (.if_icmp .ge 17, 3) := by decide +kernel
theorem dX3_holdRow_14 : decode cX3_holdRow 14 = .ok (.aload_n 0, 1) := by decide +kernel
theorem dX3_holdRow_15 : decode cX3_holdRow 15 = .ok (.getfield 15, 3) := by decide +kernel
theorem dX3_holdRow_18 : decode cX3_holdRow 18 = .ok (.iload_n 1, 1) := by decide +kernel
theorem dX3_holdRow_19 : decode cX3_holdRow 19 = .ok (.iload_n 2, 1) := by decide +kernel
theorem dX3_holdRow_20 : decode cX3_holdRow 20 = .ok (.iastore, 1) := by decide +kernel
theorem dX3_holdRow_21 : decode cX3_holdRow 21 = .ok (.aload_n 0, 1) := by decide +kernel
theorem dX3_holdRow_22 : decode cX3_holdRow 22 = .ok (.getfield 18, 3) := by decide +kernel
theorem dX3_holdRow_25 : decode cX3_holdRow 25 = .ok (.iload_n 1, 1) := by decide +kernel
theorem dX3_holdRow_26 : decode cX3_holdRow 26 = .ok (.iload_n 3, 1) := by decide +kernel
theorem dX3_holdRow_27 : decode cX3_holdRow 27 = .ok (.iastore, 1) := by decide +kernel
theorem dX3_holdRow_28 : decode cX3_holdRow 28 = .ok (.return_, 1) := by decide +kernel
theorem dX4_init_0 : decode cX4_init 0 = .ok (.aload_n 0, 1) := by decide +kernel
theorem dX4_init_1 : decode cX4_init 1 = .ok (.invokespecial 3, 3) := by decide +kernel
theorem dX4_init_4 : decode cX4_init 4 = .ok (.aload_n 0, 1) := by decide +kernel
theorem dX4_init_5 : decode cX4_init 5 = .ok (.sipush 200, 3) := by decide +kernel
theorem dX4_init_8 : decode cX4_init 8 = .ok (.newarray .byte, 2) := by decide +kernel
theorem dX4_init_10 : decode cX4_init 10 = .ok (.putfield 9, 3) := by decide +kernel
theorem dX4_init_13 : decode cX4_init 13 = .ok (.aload_n 0, 1) := by decide +kernel
theorem dX4_init_14 : decode cX4_init 14 = .ok (.iconst 0, 1) := by decide +kernel
theorem dX4_init_15 : decode cX4_init 15 = .ok (.putfield 15, 3) := by decide +kernel
theorem dX4_init_18 : decode cX4_init 18 = .ok (.aload_n 0, 1) := by decide +kernel
theorem dX4_init_19 : decode cX4_init 19 = .ok (.iconst 0, 1) := by decide +kernel
theorem dX4_init_20 : decode cX4_init 20 = .ok (.putfield 19, 3) := by decide +kernel
theorem dX4_init_23 : decode cX4_init 23 = .ok (.aload_n 0, 1) := by decide +kernel
theorem dX4_init_24 : decode cX4_init 24 = .ok (.iconst (-1), 1) := by decide +kernel
theorem dX4_init_25 : decode cX4_init 25 = .ok (.putfield 22, 3) := by decide +kernel
theorem dX4_init_28 : decode cX4_init 28 = .ok (.return_, 1) := by decide +kernel
theorem dX4_take_0 : decode cX4_take 0 = .ok (.iload_n 3, 1) := by decide +kernel
theorem dX4_take_1 : decode cX4_take 1 = .ok (.ifCond .lt 15, 3) := by decide +kernel
theorem dX4_take_4 : decode cX4_take 4 = .ok (.iload_n 3, 1) := by decide +kernel
theorem dX4_take_5 : decode cX4_take 5 = .ok (.sipush 200, 3) := by decide +kernel
theorem dX4_take_8 : decode cX4_take 8 = .ok (.aload_n 0, 1) := by decide +kernel
theorem dX4_take_9 : decode cX4_take 9 = .ok (.getfield 15, 3) := by decide +kernel
theorem dX4_take_12 : decode cX4_take 12 = .ok (.isub, 1) := by decide +kernel
theorem dX4_take_13 : decode cX4_take 13 = .ok (.if_icmp .le 5, 3) := by decide +kernel
theorem dX4_take_16 : decode cX4_take 16 = .ok (.iconst 0, 1) := by decide +kernel
theorem dX4_take_17 : decode cX4_take 17 = .ok (.ireturn, 1) := by decide +kernel
theorem dX4_take_18 : decode cX4_take 18 = .ok (.iconst 0, 1) := by decide +kernel
theorem dX4_take_19 : decode cX4_take 19 = .ok (.istore 4, 2) := by decide +kernel
theorem dX4_take_21 : decode cX4_take 21 = .ok (.iload 4, 2) := by decide +kernel
theorem dX4_take_23 : decode cX4_take 23 = .ok (.iload_n 3, 1) := by decide +kernel
theorem dX4_take_24 : decode cX4_take 24 = .ok (.if_icmp .ge 30, 3) := by decide +kernel
theorem dX4_take_27 : decode cX4_take 27 = .ok (.aload_n 0, 1) := by decide +kernel
theorem dX4_take_28 : decode cX4_take 28 = .ok (.getfield 9, 3) := by decide +kernel
theorem dX4_take_31 : decode cX4_take 31 = .ok (.aload_n 0, 1) := by decide +kernel
theorem dX4_take_32 : decode cX4_take 32 = .ok (.getfield 15, 3) := by decide +kernel
theorem dX4_take_35 : decode cX4_take 35 = .ok (.iload 4, 2) := by decide +kernel
theorem dX4_take_37 : decode cX4_take 37 = .ok (.iadd, 1) := by decide +kernel
theorem dX4_take_38 : decode cX4_take 38 = .ok (.lload_n 1, 1) := by decide +kernel
theorem dX4_take_39 : decode cX4_take 39 = .ok (.bipush 8, 2) := by decide +kernel
theorem dX4_take_41 : decode cX4_take 41 = .ok (.iload 4, 2) := by decide +kernel
theorem dX4_take_43 : decode cX4_take 43 = .ok (.imul, 1) := by decide +kernel
theorem dX4_take_44 : decode cX4_take 44 = .ok (.lushr, 1) := by decide +kernel
theorem dX4_take_45 : decode cX4_take 45 = .ok (.l2i, 1) := by decide +kernel
theorem dX4_take_46 : decode cX4_take 46 = .ok (.i2b, 1) := by decide +kernel
theorem dX4_take_47 : decode cX4_take 47 = .ok (.bastore, 1) := by decide +kernel
theorem dX4_take_48 : decode cX4_take 48 = .ok (.iinc 4 1, 3) := by decide +kernel
theorem dX4_take_51 : decode cX4_take 51 = .ok (.goto (-30), 3) := by decide +kernel
theorem dX4_take_54 : decode cX4_take 54 = .ok (.aload_n 0, 1) := by decide +kernel
theorem dX4_take_55 : decode cX4_take 55 = .ok (.dup, 1) := by decide +kernel
theorem dX4_take_56 : decode cX4_take 56 = .ok (.getfield 15, 3) := by decide +kernel
theorem dX4_take_59 : decode cX4_take 59 = .ok (.iload_n 3, 1) := by decide +kernel
theorem dX4_take_60 : decode cX4_take 60 = .ok (.iadd, 1) := by decide +kernel
theorem dX4_take_61 : decode cX4_take 61 = .ok (.putfield 15, 3) := by decide +kernel
theorem dX4_take_64 : decode cX4_take 64 = .ok (.iconst 1, 1) := by decide +kernel
theorem dX4_take_65 : decode cX4_take 65 = .ok (.ireturn, 1) := by decide +kernel
theorem dX4_readInto_0 : decode cX4_readInto 0 = .ok (.aload_n 1, 1) := by decide +kernel
theorem dX4_readInto_1 : decode cX4_readInto 1 = .ok (.invokevirtual 25, 3) := by decide +kernel
theorem dX4_readInto_4 : decode cX4_readInto 4 = .ok (.aload_n 0, 1) := by decide +kernel
theorem dX4_readInto_5 : decode cX4_readInto 5 = .ok (.iconst 0, 1) := by decide +kernel
theorem dX4_readInto_6 : decode cX4_readInto 6 = .ok (.putfield 19, 3) := by decide +kernel
theorem dX4_readInto_9 : decode cX4_readInto 9 = .ok (.aload_n 0, 1) := by decide +kernel
theorem dX4_readInto_10 : decode cX4_readInto 10 = .ok (.iconst (-1), 1) := by decide +kernel
theorem dX4_readInto_11 : decode cX4_readInto 11 = .ok (.putfield 22, 3) := by decide +kernel
theorem dX4_readInto_14 : decode cX4_readInto 14 = .ok (.aload_n 0, 1) := by decide +kernel
theorem dX4_readInto_15 : decode cX4_readInto 15 = .ok (.invokevirtual 30, 3) := by decide +kernel
theorem dX4_readInto_18 : decode cX4_readInto 18 = .ok (.iconst 0, 1) := by decide +kernel
theorem dX4_readInto_19 : decode cX4_readInto 19 = .ok (.istore_n 2, 1) := by decide +kernel
theorem dX4_readInto_20 : decode cX4_readInto 20 = .ok (.iload_n 2, 1) := by decide +kernel
theorem dX4_readInto_21 : decode cX4_readInto 21 = .ok (.sipush 200, 3) := by decide +kernel
theorem dX4_readInto_24 : decode cX4_readInto 24 = .ok (.if_icmp .ge 36, 3) := by decide +kernel
theorem dX4_readInto_27 : decode cX4_readInto 27 = .ok (.aload_n 0, 1) := by decide +kernel
theorem dX4_readInto_28 : decode cX4_readInto 28 = .ok (.getfield 19, 3) := by decide +kernel
theorem dX4_readInto_31 : decode cX4_readInto 31 = .ok (.aload_n 0, 1) := by decide +kernel
theorem dX4_readInto_32 : decode cX4_readInto 32 = .ok (.getfield 15, 3) := by decide +kernel
theorem dX4_readInto_35 : decode cX4_readInto 35 = .ok (.if_icmp .ge 25, 3) := by decide +kernel
theorem dX4_readInto_38 : decode cX4_readInto 38 = .ok (.aload_n 0, 1) := by decide +kernel
theorem dX4_readInto_39 : decode cX4_readInto 39 = .ok (.getfield 22, 3) := by decide +kernel
theorem dX4_readInto_42 : decode cX4_readInto 42 = .ok (.ifCond .ge 18, 3) := by decide +kernel
theorem dX4_readInto_45 : decode cX4_readInto 45 = .ok (.aload_n 0, 1) := by decide +kernel
theorem dX4_readInto_46 : decode cX4_readInto 46 = .ok (.aload_n 1, 1) := by decide +kernel
theorem dX4_readInto_47 : decode cX4_readInto 47 = .ok (.invokevirtual 33, 3) := by decide +kernel
theorem dX4_readInto_50 : decode cX4_readInto 50 = .ok (.aload_n 0, 1) := by decide +kernel
theorem dX4_readInto_51 : decode cX4_readInto 51 = .ok (.invokevirtual 30, 3) := by decide +kernel
theorem dX4_readInto_54 : decode cX4_readInto 54 = .ok (.iinc 2 1, 3) := by decide +kernel
theorem dX4_readInto_57 : decode cX4_readInto 57 = .ok (.goto (-37), 3) := by decide +kernel
theorem dX4_readInto_60 : decode cX4_readInto 60 = .ok (.aload_n 0, 1) := by decide +kernel
theorem dX4_readInto_61 : decode cX4_readInto 61 = .ok (.getfield 22, 3) := by decide +kernel
theorem dX4_readInto_64 : decode cX4_readInto 64 = .ok (.ireturn, 1) := by decide +kernel
theorem dX4_readOne_0 : decode cX4_readOne 0 = .ok (.aload_n 0, 1) := by decide +kernel
theorem dX4_readOne_1 : decode cX4_readOne 1 = .ok (.getfield 19, 3) := by decide +kernel
theorem dX4_readOne_4 : decode cX4_readOne 4 = .ok (.istore_n 2, 1) := by decide +kernel
theorem dX4_readOne_5 : decode cX4_readOne 5 = .ok (.aload_n 0, 1) := by decide +kernel
theorem dX4_readOne_6 : decode cX4_readOne 6 = .ok (.invokevirtual 37, 3) := by decide +kernel
theorem dX4_readOne_9 : decode cX4_readOne 9 = .ok (.istore_n 3, 1) := by decide +kernel
theorem dX4_readOne_10 : decode cX4_readOne 10 = .ok (.iload_n 3, 1) := by decide +kernel
theorem dX4_readOne_11 : decode cX4_readOne 11 = .ok (.ifCond .lt 13, 3) := by decide +kernel
theorem dX4_readOne_14 : decode cX4_readOne 14 = .ok (.aload_n 0, 1) := by decide +kernel
theorem dX4_readOne_15 : decode cX4_readOne 15 = .ok (.aload_n 1, 1) := by decide +kernel
theorem dX4_readOne_16 : decode cX4_readOne 16 = .ok (.iload_n 3, 1) := by decide +kernel
theorem dX4_readOne_17 : decode cX4_readOne 17 = .ok (.iload_n 2, 1) := by decide +kernel
theorem dX4_readOne_18 : decode cX4_readOne 18 = .ok (.invokevirtual 41, 3) := by decide +kernel
theorem dX4_readOne_21 : decode cX4_readOne 21 = .ok (.goto 88, 3) := by decide +kernel
theorem dX4_readOne_24 : decode cX4_readOne 24 = .ok (.aload_n 0, 1) := by decide +kernel
theorem dX4_readOne_25 : decode cX4_readOne 25 = .ok (.ldc 45, 2) := by decide +kernel
theorem dX4_readOne_27 : decode cX4_readOne 27 = .ok (.invokevirtual 47, 3) := by decide +kernel
theorem dX4_readOne_30 : decode cX4_readOne 30 = .ok (.ifCond .eq 35, 3) := by decide +kernel
theorem dX4_readOne_33 : decode cX4_readOne 33 = .ok (.aload_n 0, 1) := by decide +kernel
theorem dX4_readOne_34 : decode cX4_readOne 34 = .ok (.iconst 2, 1) := by decide +kernel
theorem dX4_readOne_35 : decode cX4_readOne 35 = .ok (.bipush 10, 2) := by decide +kernel
theorem dX4_readOne_37 : decode cX4_readOne 37 = .ok (.invokevirtual 51, 3) := by decide +kernel
theorem dX4_readOne_40 : decode cX4_readOne 40 = .ok (.istore 4, 2) := by decide +kernel
theorem dX4_readOne_42 : decode cX4_readOne 42 = .ok (.aload_n 1, 1) := by decide +kernel
theorem dX4_readOne_43 : decode cX4_readOne 43 = .ok (.aload_n 0, 1) := by decide +kernel
theorem dX4_readOne_44 : decode cX4_readOne 44 = .ok (.getfield 22, 3) := by decide +kernel
theorem dX4_readOne_47 : decode cX4_readOne 47 = .ok (.ifCond .ge 8, 3) := by decide +kernel
theorem dX4_readOne_50 : decode cX4_readOne 50 = .ok (.iload 4, 2) := by decide +kernel
theorem dX4_readOne_52 : decode cX4_readOne 52 = .ok (.goto 7, 3) := by decide +kernel
theorem dX4_readOne_55 : decode cX4_readOne 55 = .ok (.aload_n 1, 1) := by decide +kernel
theorem dX4_readOne_56 : decode cX4_readOne 56 = .ok (.getfield 55, 3) := by decide +kernel
theorem dX4_readOne_59 : decode cX4_readOne 59 = .ok (.putfield 55, 3) := by decide +kernel
theorem dX4_readOne_62 : decode cX4_readOne 62 = .ok (.goto 47, 3) := by decide +kernel
theorem dX4_readOne_65 : decode cX4_readOne 65 = .ok (.aload_n 0, 1) := by decide +kernel
theorem dX4_readOne_66 : decode cX4_readOne 66 = .ok (.ldc 57, 2) := by decide +kernel
theorem dX4_readOne_68 : decode cX4_readOne 68 = .ok (.invokevirtual 47, 3) := by decide +kernel
theorem dX4_readOne_71 : decode cX4_readOne 71 = .ok (.ifCond .eq 12, 3) := by decide +kernel
theorem dX4_readOne_74 : decode cX4_readOne 74 = .ok (.aload_n 0, 1) := by decide +kernel
theorem dX4_readOne_75 : decode cX4_readOne 75 = .ok (.aload_n 1, 1) := by decide +kernel
theorem dX4_readOne_76 : decode cX4_readOne 76 = .ok (.iconst 1, 1) := by decide +kernel
theorem dX4_readOne_77 : decode cX4_readOne 77 = .ok (.invokevirtual 59, 3) := by decide +kernel
theorem dX4_readOne_80 : decode cX4_readOne 80 = .ok (.goto 29, 3) := by decide +kernel
theorem dX4_readOne_83 : decode cX4_readOne 83 = .ok (.aload_n 0, 1) := by decide +kernel
theorem dX4_readOne_84 : decode cX4_readOne 84 = .ok (.ldc 63, 2) := by decide +kernel
theorem dX4_readOne_86 : decode cX4_readOne 86 = .ok (.invokevirtual 47, 3) := by decide +kernel
theorem dX4_readOne_89 : decode cX4_readOne 89 = .ok (.ifCond .eq 12, 3) := by decide +kernel
theorem dX4_readOne_92 : decode cX4_readOne 92 = .ok (.aload_n 0, 1) := by decide +kernel
theorem dX4_readOne_93 : decode cX4_readOne 93 = .ok (.aload_n 1, 1) := by decide +kernel
theorem dX4_readOne_94 : decode cX4_readOne 94 = .ok (.iconst 0, 1) := by decide +kernel
theorem dX4_readOne_95 : decode cX4_readOne 95 = .ok (.invokevirtual 59, 3) := by decide +kernel
theorem dX4_readOne_98 : decode cX4_readOne 98 = .ok (.goto 11, 3) := by decide +kernel
theorem dX4_readOne_101 : decode cX4_readOne 101 = .ok (.aload_n 0, 1) := by decide +kernel
theorem dX4_readOne_102 : decode cX4_readOne 102 = .ok (.aload_n 0, 1) := by decide +kernel
theorem dX4_readOne_103 : decode cX4_readOne 103 = .ok (.getfield 19, 3) := by decide +kernel
theorem dX4_readOne_106 : decode cX4_readOne 106 = .ok (.invokevirtual 65, 3) := by decide +kernel
theorem dX4_readOne_109 : decode cX4_readOne 109 = .ok (.aload_n 0, 1) := by decide +kernel
theorem dX4_readOne_110 : decode cX4_readOne 110 = .ok (.invokevirtual 69, 3) := by decide +kernel
theorem dX4_readOne_113 : decode cX4_readOne 113 = .ok (.return_, 1) := by decide +kernel
theorem dX4_kindNamed_0 : decode cX4_kindNamed 0 = .ok (.aload_n 0, 1) := by decide +kernel
theorem dX4_kindNamed_1 : decode cX4_kindNamed 1 = .ok (.ldc 72, 2) := by decide +kernel
theorem dX4_kindNamed_3 : decode cX4_kindNamed 3 = .ok (.invokevirtual 47, 3) := by decide +kernel
theorem dX4_kindNamed_6 : decode cX4_kindNamed 6 = .ok (.ifCond .eq 5, 3) := by decide +kernel
theorem dX4_kindNamed_9 : decode cX4_kindNamed 9 = .ok (.iconst 0, 1) := by decide +kernel
theorem dX4_kindNamed_10 : decode cX4_kindNamed 10 = .ok (.ireturn, 1) := by decide +kernel
theorem dX4_kindNamed_11 : decode cX4_kindNamed 11 = .ok (.aload_n 0, 1) := by decide +kernel
theorem dX4_kindNamed_12 : decode cX4_kindNamed 12 = .ok (.ldc 74, 2) := by decide +kernel
theorem dX4_kindNamed_14 : decode cX4_kindNamed 14 = .ok (.invokevirtual 47, 3) := by decide +kernel
theorem dX4_kindNamed_17 : decode cX4_kindNamed 17 = .ok (.ifCond .eq 5, 3) := by decide +kernel
theorem dX4_kindNamed_20 : decode cX4_kindNamed 20 = .ok (.iconst 1, 1) := by decide +kernel
theorem dX4_kindNamed_21 : decode cX4_kindNamed 21 = .ok (.ireturn, 1) := by decide +kernel
theorem dX4_kindNamed_22 : decode cX4_kindNamed 22 = .ok (.aload_n 0, 1) := by decide +kernel
theorem dX4_kindNamed_23 : decode cX4_kindNamed 23 = .ok (.ldc 76, 2) := by decide +kernel
theorem dX4_kindNamed_25 : decode cX4_kindNamed 25 = .ok (.invokevirtual 47, 3) := by decide +kernel
theorem dX4_kindNamed_28 : decode cX4_kindNamed 28 = .ok (.ifCond .eq 5, 3) := by decide +kernel
theorem dX4_kindNamed_31 : decode cX4_kindNamed 31 = .ok (.iconst 2, 1) := by decide +kernel
theorem dX4_kindNamed_32 : decode cX4_kindNamed 32 = .ok (.ireturn, 1) := by decide +kernel
theorem dX4_kindNamed_33 : decode cX4_kindNamed 33 = .ok (.aload_n 0, 1) := by decide +kernel
theorem dX4_kindNamed_34 : decode cX4_kindNamed 34 = .ok (.ldc 78, 2) := by decide +kernel
theorem dX4_kindNamed_36 : decode cX4_kindNamed 36 = .ok (.invokevirtual 47, 3) := by decide +kernel
theorem dX4_kindNamed_39 : decode cX4_kindNamed 39 = .ok (.ifCond .eq 5, 3) := by decide +kernel
theorem dX4_kindNamed_42 : decode cX4_kindNamed 42 = .ok (.iconst 3, 1) := by decide +kernel
theorem dX4_kindNamed_43 : decode cX4_kindNamed 43 = .ok (.ireturn, 1) := by decide +kernel
theorem dX4_kindNamed_44 : decode cX4_kindNamed 44 = .ok (.aload_n 0, 1) := by decide +kernel
theorem dX4_kindNamed_45 : decode cX4_kindNamed 45 = .ok (.ldc 80, 2) := by decide +kernel
theorem dX4_kindNamed_47 : decode cX4_kindNamed 47 = .ok (.invokevirtual 47, 3) := by decide +kernel
theorem dX4_kindNamed_50 : decode cX4_kindNamed 50 = .ok (.ifCond .eq 5, 3) := by decide +kernel
theorem dX4_kindNamed_53 : decode cX4_kindNamed 53 = .ok (.iconst 4, 1) := by decide +kernel
theorem dX4_kindNamed_54 : decode cX4_kindNamed 54 = .ok (.ireturn, 1) := by decide +kernel
theorem dX4_kindNamed_55 : decode cX4_kindNamed 55 = .ok (.aload_n 0, 1) := by decide +kernel
theorem dX4_kindNamed_56 : decode cX4_kindNamed 56 = .ok (.ldc 82, 2) := by decide +kernel
theorem dX4_kindNamed_58 : decode cX4_kindNamed 58 = .ok (.invokevirtual 47, 3) := by decide +kernel
theorem dX4_kindNamed_61 : decode cX4_kindNamed 61 = .ok (.ifCond .eq 7, 3) := by decide +kernel
theorem dX4_kindNamed_64 : decode cX4_kindNamed 64 = .ok (.iconst 5, 1) := by decide +kernel
theorem dX4_kindNamed_65 : decode cX4_kindNamed 65 = .ok (.goto 4, 3) := by decide +kernel
theorem dX4_kindNamed_68 : decode cX4_kindNamed 68 = .ok (.iconst (-1), 1) := by decide +kernel
theorem dX4_kindNamed_69 : decode cX4_kindNamed 69 = .ok (.ireturn, 1) := by decide +kernel
theorem dX4_readRule_0 : decode cX4_readRule 0 = .ok (.aload_n 1, 1) := by decide +kernel
theorem dX4_readRule_1 : decode cX4_readRule 1 = .ok (.getfield 84, 3) := by decide +kernel
theorem dX4_readRule_4 : decode cX4_readRule 4 = .ok (.bipush 6, 2) := by decide +kernel
theorem dX4_readRule_6 : decode cX4_readRule 6 = .ok (.if_icmp .lt 8, 3) := by decide +kernel
theorem dX4_readRule_9 : decode cX4_readRule 9 = .ok (.aload_n 0, 1) := by decide +kernel
theorem dX4_readRule_10 : decode cX4_readRule 10 = .ok (.iload_n 3, 1) := by decide +kernel
theorem dX4_readRule_11 : decode cX4_readRule 11 = .ok (.invokevirtual 65, 3) := by decide +kernel
theorem dX4_readRule_14 : decode cX4_readRule 14 = .ok (.aload_n 0, 1) := by decide +kernel
theorem dX4_readRule_15 : decode cX4_readRule 15 = .ok (.iconst 0, 1) := by decide +kernel
theorem dX4_readRule_16 : decode cX4_readRule 16 = .ok (.iconst 4, 1) := by decide +kernel
theorem dX4_readRule_17 : decode cX4_readRule 17 = .ok (.invokevirtual 51, 3) := by decide +kernel
theorem dX4_readRule_20 : decode cX4_readRule 20 = .ok (.istore 4, 2) := by decide +kernel
theorem dX4_readRule_22 : decode cX4_readRule 22 = .ok (.aload_n 0, 1) := by decide +kernel
theorem dX4_readRule_23 : decode cX4_readRule 23 = .ok (.iconst 0, 1) := by decide +kernel
theorem dX4_readRule_24 : decode cX4_readRule 24 = .ok (.iconst 4, 1) := by decide +kernel
theorem dX4_readRule_25 : decode cX4_readRule 25 = .ok (.invokevirtual 51, 3) := by decide +kernel
theorem dX4_readRule_28 : decode cX4_readRule 28 = .ok (.istore 5, 2) := by decide +kernel
theorem dX4_readRule_30 : decode cX4_readRule 30 = .ok (.aload_n 0, 1) := by decide +kernel
theorem dX4_readRule_31 : decode cX4_readRule 31 = .ok (.iconst 1, 1) := by decide +kernel
theorem dX4_readRule_32 : decode cX4_readRule 32 = .ok (.iconst 4, 1) := by decide +kernel
theorem dX4_readRule_33 : decode cX4_readRule 33 = .ok (.invokevirtual 51, 3) := by decide +kernel
theorem dX4_readRule_36 : decode cX4_readRule 36 = .ok (.istore 6, 2) := by decide +kernel
theorem dX4_readRule_38 : decode cX4_readRule 38 = .ok (.aload_n 0, 1) := by decide +kernel
theorem dX4_readRule_39 : decode cX4_readRule 39 = .ok (.getfield 22, 3) := by decide +kernel
theorem dX4_readRule_42 : decode cX4_readRule 42 = .ok (.ifCond .ge 17, 3) := by decide +kernel
theorem dX4_readRule_45 : decode cX4_readRule 45 = .ok (.aload_n 1, 1) := by decide +kernel
theorem dX4_readRule_46 : decode cX4_readRule 46 = .ok (.iload_n 2, 1) := by decide +kernel
theorem dX4_readRule_47 : decode cX4_readRule 47 = .ok (.iload 4, 2) := by decide +kernel
theorem dX4_readRule_49 : decode cX4_readRule 49 = .ok (.iload 5, 2) := by decide +kernel
theorem dX4_readRule_51 : decode cX4_readRule 51 = .ok (.iload 6, 2) := by decide +kernel
theorem dX4_readRule_53 : decode cX4_readRule 53 = .ok (.invokestatic 87, 3) := by decide +kernel
theorem dX4_readRule_56 : decode cX4_readRule 56 = .ok (.invokevirtual 91, 3) := by decide +kernel
theorem dX4_readRule_59 : decode cX4_readRule 59 = .ok (.return_, 1) := by decide +kernel
theorem dX4_readYear_0 : decode cX4_readYear 0 = .ok (.aload_n 0, 1) := by decide +kernel
theorem dX4_readYear_1 : decode cX4_readYear 1 = .ok (.iconst 0, 1) := by decide +kernel
theorem dX4_readYear_2 : decode cX4_readYear 2 = .ok (.bipush 23, 2) := by decide +kernel
theorem dX4_readYear_4 : decode cX4_readYear 4 = .ok (.invokevirtual 51, 3) := by decide +kernel
theorem dX4_readYear_7 : decode cX4_readYear 7 = .ok (.istore_n 3, 1) := by decide +kernel
theorem dX4_readYear_8 : decode cX4_readYear 8 = .ok (.bipush (-9), 2) := by decide +kernel
theorem dX4_readYear_10 : decode cX4_readYear 10 = .ok (.istore 4, 2) := by decide +kernel
theorem dX4_readYear_12 : decode cX4_readYear 12 = .ok (.iload_n 2, 1) := by decide +kernel
theorem dX4_readYear_13 : decode cX4_readYear 13 = .ok (.ifCond .eq 18, 3) := by decide +kernel
theorem dX4_readYear_16 : decode cX4_readYear 16 = .ok (.aload_n 0, 1) := by decide +kernel
theorem dX4_readYear_17 : decode cX4_readYear 17 = .ok (.ldc 94, 2) := by decide +kernel
theorem dX4_readYear_19 : decode cX4_readYear 19 = .ok (.invokevirtual 96, 3) := by decide +kernel
theorem dX4_readYear_22 : decode cX4_readYear 22 = .ok (.aload_n 0, 1) := by decide +kernel
theorem dX4_readYear_23 : decode cX4_readYear 23 = .ok (.iconst 0, 1) := by decide +kernel
theorem dX4_readYear_24 : decode cX4_readYear 24 = .ok (.bipush 9, 2) := by decide +kernel
theorem dX4_readYear_26 : decode cX4_readYear 26 = .ok (.invokevirtual 51, 3) := by decide +kernel
theorem dX4_readYear_29 : decode cX4_readYear 29 = .ok (.istore 4, 2) := by decide +kernel
theorem dX4_readYear_31 : decode cX4_readYear 31 = .ok (.aload_n 0, 1) := by decide +kernel
theorem dX4_readYear_32 : decode cX4_readYear 32 = .ok (.invokevirtual 30, 3) := by decide +kernel
theorem dX4_readYear_35 : decode cX4_readYear 35 = .ok (.aload_n 0, 1) := by decide +kernel
theorem dX4_readYear_36 : decode cX4_readYear 36 = .ok (.getfield 22, 3) := by decide +kernel
theorem dX4_readYear_39 : decode cX4_readYear 39 = .ok (.ifCond .ge 22, 3) := by decide +kernel
theorem dX4_readYear_42 : decode cX4_readYear 42 = .ok (.aload_n 0, 1) := by decide +kernel
theorem dX4_readYear_43 : decode cX4_readYear 43 = .ok (.ldc 100, 2) := by decide +kernel
theorem dX4_readYear_45 : decode cX4_readYear 45 = .ok (.invokevirtual 47, 3) := by decide +kernel
theorem dX4_readYear_48 : decode cX4_readYear 48 = .ok (.ifCond .eq 13, 3) := by decide +kernel
theorem dX4_readYear_51 : decode cX4_readYear 51 = .ok (.aload_n 0, 1) := by decide +kernel
theorem dX4_readYear_52 : decode cX4_readYear 52 = .ok (.iconst 0, 1) := by decide +kernel
theorem dX4_readYear_53 : decode cX4_readYear 53 = .ok (.bipush 9, 2) := by decide +kernel
theorem dX4_readYear_55 : decode cX4_readYear 55 = .ok (.invokevirtual 51, 3) := by decide +kernel
theorem dX4_readYear_58 : decode cX4_readYear 58 = .ok (.goto 4, 3) := by decide +kernel
theorem dX4_readYear_61 : decode cX4_readYear 61 = .ok (.iconst 0, 1) := by decide +kernel
theorem dX4_readYear_62 : decode cX4_readYear 62 = .ok (.istore 5, 2) := by decide +kernel
theorem dX4_readYear_64 : decode cX4_readYear 64 = .ok (.aload_n 0, 1) := by decide +kernel
theorem dX4_readYear_65 : decode cX4_readYear 65 = .ok (.getfield 22, 3) := by decide +kernel
theorem dX4_readYear_68 : decode cX4_readYear 68 = .ok (.ifCond .ge 29, 3) := by decide +kernel
theorem dX4_readYear_71 : decode cX4_readYear 71 = .ok (.iload_n 3, 1) := by decide +kernel
theorem dX4_readYear_72 : decode cX4_readYear 72 = .ok (.iconst 0, 1) := by decide +kernel
theorem dX4_readYear_73 : decode cX4_readYear 73 = .ok (.bipush 23, 2) := by decide +kernel
theorem dX4_readYear_75 : decode cX4_readYear 75 = .ok (.invokestatic 102, 3) := by decide +kernel
theorem dX4_readYear_78 : decode cX4_readYear 78 = .ok (.ifCond .ne 19, 3) := by decide +kernel
theorem dX4_readYear_81 : decode cX4_readYear 81 = .ok (.aload_n 1, 1) := by decide +kernel
theorem dX4_readYear_82 : decode cX4_readYear 82 = .ok (.getfield 106, 3) := by decide +kernel
theorem dX4_readYear_85 : decode cX4_readYear 85 = .ok (.iload_n 3, 1) := by decide +kernel
theorem dX4_readYear_86 : decode cX4_readYear 86 = .ok (.iload 4, 2) := by decide +kernel
theorem dX4_readYear_88 : decode cX4_readYear 88 = .ok (.iastore, 1) := by decide +kernel
theorem dX4_readYear_89 : decode cX4_readYear 89 = .ok (.aload_n 1, 1) := by decide +kernel
theorem dX4_readYear_90 : decode cX4_readYear 90 = .ok (.getfield 110, 3) := by decide +kernel
theorem dX4_readYear_93 : decode cX4_readYear 93 = .ok (.iload_n 3, 1) := by decide +kernel
theorem dX4_readYear_94 : decode cX4_readYear 94 = .ok (.iload 5, 2) := by decide +kernel
theorem dX4_readYear_96 : decode cX4_readYear 96 = .ok (.iastore, 1) := by decide +kernel
theorem dX4_readYear_97 : decode cX4_readYear 97 = .ok (.return_, 1) := by decide +kernel
theorem dX4_fail_0 : decode cX4_fail 0 = .ok (.aload_n 0, 1) := by decide +kernel
theorem dX4_fail_1 : decode cX4_fail 1 = .ok (.getfield 22, 3) := by decide +kernel
theorem dX4_fail_4 : decode cX4_fail 4 = .ok (.ifCond .ge 8, 3) := by decide +kernel
theorem dX4_fail_7 : decode cX4_fail 7 = .ok (.aload_n 0, 1) := by decide +kernel
theorem dX4_fail_8 : decode cX4_fail 8 = .ok (.iload_n 1, 1) := by decide +kernel
theorem dX4_fail_9 : decode cX4_fail 9 = .ok (.putfield 22, 3) := by decide +kernel
theorem dX4_fail_12 : decode cX4_fail 12 = .ok (.return_, 1) := by decide +kernel
theorem dX4_byteAt_0 : decode cX4_byteAt 0 = .ok (.iload_n 1, 1) := by decide +kernel
theorem dX4_byteAt_1 : decode cX4_byteAt 1 = .ok (.ifCond .lt 27, 3) := by decide +kernel
theorem dX4_byteAt_4 : decode cX4_byteAt 4 = .ok (.iload_n 1, 1) := by decide +kernel
theorem dX4_byteAt_5 : decode cX4_byteAt 5 = .ok (.aload_n 0, 1) := by decide +kernel
theorem dX4_byteAt_6 : decode cX4_byteAt 6 = .ok (.getfield 15, 3) := by decide +kernel
theorem dX4_byteAt_9 : decode cX4_byteAt 9 = .ok (.if_icmp .ge 19, 3) := by decide +kernel
theorem dX4_byteAt_12 : decode cX4_byteAt 12 = .ok (.iload_n 1, 1) := by decide +kernel
theorem dX4_byteAt_13 : decode cX4_byteAt 13 = .ok (.sipush 200, 3) := by decide +kernel
theorem dX4_byteAt_16 : decode cX4_byteAt 16 = .ok (.if_icmp .ge 12, 3) := by decide +kernel
theorem dX4_byteAt_19 : decode cX4_byteAt 19 = .ok (.aload_n 0, 1) := by decide +kernel
theorem dX4_byteAt_20 : decode cX4_byteAt 20 = .ok (.getfield 9, 3) := by decide +kernel
theorem dX4_byteAt_23 : decode cX4_byteAt 23 = .ok (.iload_n 1, 1) := by decide +kernel
theorem dX4_byteAt_24 : decode cX4_byteAt 24 = .ok (.baload, 1) := by decide +kernel
theorem dX4_byteAt_25 : decode cX4_byteAt 25 = .ok (.goto 4, 3) := by decide +kernel
theorem dX4_byteAt_28 : decode cX4_byteAt 28 = .ok (.iconst (-1), 1) := by decide +kernel
theorem dX4_byteAt_29 : decode cX4_byteAt 29 = .ok (.ireturn, 1) := by decide +kernel
theorem dX4_letterAt_0 : decode cX4_letterAt 0 = .ok (.aload_n 0, 1) := by decide +kernel
theorem dX4_letterAt_1 : decode cX4_letterAt 1 = .ok (.iload_n 1, 1) := by decide +kernel
theorem dX4_letterAt_2 : decode cX4_letterAt 2 = .ok (.invokevirtual 112, 3) := by decide +kernel
theorem dX4_letterAt_5 : decode cX4_letterAt 5 = .ok (.bipush 97, 2) := by decide +kernel
theorem dX4_letterAt_7 : decode cX4_letterAt 7 = .ok (.if_icmp .lt 17, 3) := by decide +kernel
theorem dX4_letterAt_10 : decode cX4_letterAt 10 = .ok (.aload_n 0, 1) := by decide +kernel
theorem dX4_letterAt_11 : decode cX4_letterAt 11 = .ok (.iload_n 1, 1) := by decide +kernel
theorem dX4_letterAt_12 : decode cX4_letterAt 12 = .ok (.invokevirtual 112, 3) := by decide +kernel
theorem dX4_letterAt_15 : decode cX4_letterAt 15 = .ok (.bipush 122, 2) := by decide +kernel
theorem dX4_letterAt_17 : decode cX4_letterAt 17 = .ok (.if_icmp .gt 7, 3) := by decide +kernel
theorem dX4_letterAt_20 : decode cX4_letterAt 20 = .ok (.iconst 1, 1) := by decide +kernel
theorem dX4_letterAt_21 : decode cX4_letterAt 21 = .ok (.goto 4, 3) := by decide +kernel
theorem dX4_letterAt_24 : decode cX4_letterAt 24 = .ok (.iconst 0, 1) := by decide +kernel
theorem dX4_letterAt_25 : decode cX4_letterAt 25 = .ok (.ireturn, 1) := by decide +kernel
theorem dX4_digitAt_0 : decode cX4_digitAt 0 = .ok (.aload_n 0, 1) := by decide +kernel
theorem dX4_digitAt_1 : decode cX4_digitAt 1 = .ok (.iload_n 1, 1) := by decide +kernel
theorem dX4_digitAt_2 : decode cX4_digitAt 2 = .ok (.invokevirtual 112, 3) := by decide +kernel
theorem dX4_digitAt_5 : decode cX4_digitAt 5 = .ok (.bipush 48, 2) := by decide +kernel
theorem dX4_digitAt_7 : decode cX4_digitAt 7 = .ok (.if_icmp .lt 17, 3) := by decide +kernel
theorem dX4_digitAt_10 : decode cX4_digitAt 10 = .ok (.aload_n 0, 1) := by decide +kernel
theorem dX4_digitAt_11 : decode cX4_digitAt 11 = .ok (.iload_n 1, 1) := by decide +kernel
theorem dX4_digitAt_12 : decode cX4_digitAt 12 = .ok (.invokevirtual 112, 3) := by decide +kernel
theorem dX4_digitAt_15 : decode cX4_digitAt 15 = .ok (.bipush 57, 2) := by decide +kernel
theorem dX4_digitAt_17 : decode cX4_digitAt 17 = .ok (.if_icmp .gt 7, 3) := by decide +kernel
theorem dX4_digitAt_20 : decode cX4_digitAt 20 = .ok (.iconst 1, 1) := by decide +kernel
theorem dX4_digitAt_21 : decode cX4_digitAt 21 = .ok (.goto 4, 3) := by decide +kernel
theorem dX4_digitAt_24 : decode cX4_digitAt 24 = .ok (.iconst 0, 1) := by decide +kernel
theorem dX4_digitAt_25 : decode cX4_digitAt 25 = .ok (.ireturn, 1) := by decide +kernel
theorem dX4_skipBlanks_0 : decode cX4_skipBlanks 0 = .ok (.aload_n 0, 1) := by decide +kernel
theorem dX4_skipBlanks_1 : decode cX4_skipBlanks 1 = .ok (.getfield 19, 3) := by decide +kernel
theorem dX4_skipBlanks_4 : decode cX4_skipBlanks 4 = .ok (.aload_n 0, 1) := by decide +kernel
theorem dX4_skipBlanks_5 : decode cX4_skipBlanks 5 = .ok (.getfield 15, 3) := by decide +kernel
theorem dX4_skipBlanks_8 : decode cX4_skipBlanks 8 = .ok (.if_icmp .ge 29, 3) := by decide +kernel
theorem dX4_skipBlanks_11 : decode cX4_skipBlanks 11 = .ok (.aload_n 0, 1) := by decide +kernel
theorem dX4_skipBlanks_12 : decode cX4_skipBlanks 12 = .ok (.aload_n 0, 1) := by decide +kernel
theorem dX4_skipBlanks_13 : decode cX4_skipBlanks 13 = .ok (.getfield 19, 3) := by decide +kernel
theorem dX4_skipBlanks_16 : decode cX4_skipBlanks 16 = .ok (.invokevirtual 112, 3) := by decide +kernel
theorem dX4_skipBlanks_19 : decode cX4_skipBlanks 19 = .ok (.bipush 32, 2) := by decide +kernel
theorem dX4_skipBlanks_21 : decode cX4_skipBlanks 21 = .ok (.if_icmp .ne 16, 3) := by decide +kernel
theorem dX4_skipBlanks_24 : decode cX4_skipBlanks 24 = .ok (.aload_n 0, 1) := by decide +kernel
theorem dX4_skipBlanks_25 : decode cX4_skipBlanks 25 = .ok (.dup, 1) := by decide +kernel
theorem dX4_skipBlanks_26 : decode cX4_skipBlanks 26 = .ok (.getfield 19, 3) := by decide +kernel
theorem dX4_skipBlanks_29 : decode cX4_skipBlanks 29 = .ok (.iconst 1, 1) := by decide +kernel
theorem dX4_skipBlanks_30 : decode cX4_skipBlanks 30 = .ok (.iadd, 1) := by decide +kernel
theorem dX4_skipBlanks_31 : decode cX4_skipBlanks 31 = .ok (.putfield 19, 3) := by decide +kernel
theorem dX4_skipBlanks_34 : decode cX4_skipBlanks 34 = .ok (.goto (-34), 3) := by decide +kernel
theorem dX4_skipBlanks_37 : decode cX4_skipBlanks 37 = .ok (.return_, 1) := by decide +kernel
theorem dX4_named_0 : decode cX4_named 0 = .ok (.iconst 0, 1) := by decide +kernel
theorem dX4_named_1 : decode cX4_named 1 = .ok (.istore_n 2, 1) := by decide +kernel
theorem dX4_named_2 : decode cX4_named 2 = .ok (.iload_n 2, 1) := by decide +kernel
theorem dX4_named_3 : decode cX4_named 3 = .ok (.aload_n 1, 1) := by decide +kernel
theorem dX4_named_4 : decode cX4_named 4 = .ok (.invokevirtual 116, 3) := by decide +kernel
theorem dX4_named_7 : decode cX4_named 7 = .ok (.if_icmp .ge 29, 3) := by decide +kernel
theorem dX4_named_10 : decode cX4_named 10 = .ok (.aload_n 0, 1) := by decide +kernel
theorem dX4_named_11 : decode cX4_named 11 = .ok (.aload_n 0, 1) := by decide +kernel
theorem dX4_named_12 : decode cX4_named 12 = .ok (.getfield 19, 3) := by decide +kernel
theorem dX4_named_15 : decode cX4_named 15 = .ok (.iload_n 2, 1) := by decide +kernel
theorem dX4_named_16 : decode cX4_named 16 = .ok (.iadd, 1) := by decide +kernel
theorem dX4_named_17 : decode cX4_named 17 = .ok (.invokevirtual 112, 3) := by decide +kernel
theorem dX4_named_20 : decode cX4_named 20 = .ok (.aload_n 1, 1) := by decide +kernel
theorem dX4_named_21 : decode cX4_named 21 = .ok (.iload_n 2, 1) := by decide +kernel
theorem dX4_named_22 : decode cX4_named 22 = .ok (.invokevirtual 121, 3) := by decide +kernel
theorem dX4_named_25 : decode cX4_named 25 = .ok (.if_icmp .eq 5, 3) := by decide +kernel
theorem dX4_named_28 : decode cX4_named 28 = .ok (.iconst 0, 1) := by decide +kernel
theorem dX4_named_29 : decode cX4_named 29 = .ok (.ireturn, 1) := by decide +kernel
theorem dX4_named_30 : decode cX4_named 30 = .ok (.iinc 2 1, 3) := by decide +kernel
theorem dX4_named_33 : decode cX4_named 33 = .ok (.goto (-31), 3) := by decide +kernel
theorem dX4_named_36 : decode cX4_named 36 = .ok (.aload_n 0, 1) := by decide +kernel
theorem dX4_named_37 : decode cX4_named 37 = .ok (.aload_n 0, 1) := by decide +kernel
theorem dX4_named_38 : decode cX4_named 38 = .ok (.getfield 19, 3) := by decide +kernel
theorem dX4_named_41 : decode cX4_named 41 = .ok (.aload_n 1, 1) := by decide +kernel
theorem dX4_named_42 : decode cX4_named 42 = .ok (.invokevirtual 116, 3) := by decide +kernel
theorem dX4_named_45 : decode cX4_named 45 = .ok (.iadd, 1) := by decide +kernel
theorem dX4_named_46 : decode cX4_named 46 = .ok (.invokevirtual 125, 3) := by decide +kernel
theorem dX4_named_49 : decode cX4_named 49 = .ok (.ifCond .eq 5, 3) := by decide +kernel
theorem dX4_named_52 : decode cX4_named 52 = .ok (.iconst 0, 1) := by decide +kernel
theorem dX4_named_53 : decode cX4_named 53 = .ok (.ireturn, 1) := by decide +kernel
theorem dX4_named_54 : decode cX4_named 54 = .ok (.aload_n 0, 1) := by decide +kernel
theorem dX4_named_55 : decode cX4_named 55 = .ok (.dup, 1) := by decide +kernel
theorem dX4_named_56 : decode cX4_named 56 = .ok (.getfield 19, 3) := by decide +kernel
theorem dX4_named_59 : decode cX4_named 59 = .ok (.aload_n 1, 1) := by decide +kernel
theorem dX4_named_60 : decode cX4_named 60 = .ok (.invokevirtual 116, 3) := by decide +kernel
theorem dX4_named_63 : decode cX4_named 63 = .ok (.iadd, 1) := by decide +kernel
theorem dX4_named_64 : decode cX4_named 64 = .ok (.putfield 19, 3) := by decide +kernel
theorem dX4_named_67 : decode cX4_named 67 = .ok (.iconst 1, 1) := by decide +kernel
theorem dX4_named_68 : decode cX4_named 68 = .ok (.ireturn, 1) := by decide +kernel
theorem dX4_need_0 : decode cX4_need 0 = .ok (.aload_n 0, 1) := by decide +kernel
theorem dX4_need_1 : decode cX4_need 1 = .ok (.invokevirtual 30, 3) := by decide +kernel
theorem dX4_need_4 : decode cX4_need 4 = .ok (.aload_n 0, 1) := by decide +kernel
theorem dX4_need_5 : decode cX4_need 5 = .ok (.getfield 22, 3) := by decide +kernel
theorem dX4_need_8 : decode cX4_need 8 = .ok (.ifCond .ge 19, 3) := by decide +kernel
theorem dX4_need_11 : decode cX4_need 11 = .ok (.aload_n 0, 1) := by decide +kernel
theorem dX4_need_12 : decode cX4_need 12 = .ok (.aload_n 1, 1) := by decide +kernel
theorem dX4_need_13 : decode cX4_need 13 = .ok (.invokevirtual 47, 3) := by decide +kernel
theorem dX4_need_16 : decode cX4_need 16 = .ok (.ifCond .ne 11, 3) := by decide +kernel
theorem dX4_need_19 : decode cX4_need 19 = .ok (.aload_n 0, 1) := by decide +kernel
theorem dX4_need_20 : decode cX4_need 20 = .ok (.aload_n 0, 1) := by decide +kernel
theorem dX4_need_21 : decode cX4_need 21 = .ok (.getfield 19, 3) := by decide +kernel
theorem dX4_need_24 : decode cX4_need 24 = .ok (.invokevirtual 65, 3) := by decide +kernel
theorem dX4_need_27 : decode cX4_need 27 = .ok (.return_, 1) := by decide +kernel
theorem dX4_number_0 : decode cX4_number 0 = .ok (.aload_n 0, 1) := by decide +kernel
theorem dX4_number_1 : decode cX4_number 1 = .ok (.invokevirtual 30, 3) := by decide +kernel
theorem dX4_number_4 : decode cX4_number 4 = .ok (.aload_n 0, 1) := by decide +kernel
theorem dX4_number_5 : decode cX4_number 5 = .ok (.getfield 19, 3) := by decide +kernel
theorem dX4_number_8 : decode cX4_number 8 = .ok (.istore_n 3, 1) := by decide +kernel
theorem dX4_number_9 : decode cX4_number 9 = .ok (.iconst 0, 1) := by decide +kernel
theorem dX4_number_10 : decode cX4_number 10 = .ok (.istore 4, 2) := by decide +kernel
theorem dX4_number_12 : decode cX4_number 12 = .ok (.aload_n 0, 1) := by decide +kernel
theorem dX4_number_13 : decode cX4_number 13 = .ok (.getfield 19, 3) := by decide +kernel
theorem dX4_number_16 : decode cX4_number 16 = .ok (.aload_n 0, 1) := by decide +kernel
theorem dX4_number_17 : decode cX4_number 17 = .ok (.getfield 15, 3) := by decide +kernel
theorem dX4_number_20 : decode cX4_number 20 = .ok (.if_icmp .ge 61, 3) := by decide +kernel
theorem dX4_number_23 : decode cX4_number 23 = .ok (.aload_n 0, 1) := by decide +kernel
theorem dX4_number_24 : decode cX4_number 24 = .ok (.aload_n 0, 1) := by decide +kernel
theorem dX4_number_25 : decode cX4_number 25 = .ok (.getfield 19, 3) := by decide +kernel
theorem dX4_number_28 : decode cX4_number 28 = .ok (.invokevirtual 129, 3) := by decide +kernel
theorem dX4_number_31 : decode cX4_number 31 = .ok (.ifCond .eq 50, 3) := by decide +kernel
theorem dX4_number_34 : decode cX4_number 34 = .ok (.aload_n 0, 1) := by decide +kernel
theorem dX4_number_35 : decode cX4_number 35 = .ok (.getfield 19, 3) := by decide +kernel
theorem dX4_number_38 : decode cX4_number 38 = .ok (.iload_n 3, 1) := by decide +kernel
theorem dX4_number_39 : decode cX4_number 39 = .ok (.isub, 1) := by decide +kernel
theorem dX4_number_40 : decode cX4_number 40 = .ok (.iconst 2, 1) := by decide +kernel
theorem dX4_number_41 : decode cX4_number 41 = .ok (.if_icmp .ge 23, 3) := by decide +kernel
theorem dX4_number_44 : decode cX4_number 44 = .ok (.iload 4, 2) := by decide +kernel
theorem dX4_number_46 : decode cX4_number 46 = .ok (.bipush 10, 2) := by decide +kernel
theorem dX4_number_48 : decode cX4_number 48 = .ok (.imul, 1) := by decide +kernel
theorem dX4_number_49 : decode cX4_number 49 = .ok (.aload_n 0, 1) := by decide +kernel
theorem dX4_number_50 : decode cX4_number 50 = .ok (.aload_n 0, 1) := by decide +kernel
theorem dX4_number_51 : decode cX4_number 51 = .ok (.getfield 19, 3) := by decide +kernel
theorem dX4_number_54 : decode cX4_number 54 = .ok (.invokevirtual 112, 3) := by decide +kernel
theorem dX4_number_57 : decode cX4_number 57 = .ok (.iadd, 1) := by decide +kernel
theorem dX4_number_58 : decode cX4_number 58 = .ok (.bipush 48, 2) := by decide +kernel
theorem dX4_number_60 : decode cX4_number 60 = .ok (.isub, 1) := by decide +kernel
theorem dX4_number_61 : decode cX4_number 61 = .ok (.goto 5, 3) := by decide +kernel
theorem dX4_number_64 : decode cX4_number 64 = .ok (.iload 4, 2) := by decide +kernel
theorem dX4_number_66 : decode cX4_number 66 = .ok (.istore 4, 2) := by decide +kernel
theorem dX4_number_68 : decode cX4_number 68 = .ok (.aload_n 0, 1) := by decide +kernel
theorem dX4_number_69 : decode cX4_number 69 = .ok (.dup, 1) := by decide +kernel
theorem dX4_number_70 : decode cX4_number 70 = .ok (.getfield 19, 3) := by decide +kernel
theorem dX4_number_73 : decode cX4_number 73 = .ok (.iconst 1, 1) := by decide +kernel
theorem dX4_number_74 : decode cX4_number 74 = .ok (.iadd, 1) := by decide +kernel
theorem dX4_number_75 : decode cX4_number 75 = .ok (.putfield 19, 3) := by decide +kernel
theorem dX4_number_78 : decode cX4_number 78 = .ok (.goto (-66), 3) := by decide +kernel
theorem dX4_number_81 : decode cX4_number 81 = .ok (.aload_n 0, 1) := by decide +kernel
theorem dX4_number_82 : decode cX4_number 82 = .ok (.getfield 19, 3) := by decide +kernel
theorem dX4_number_85 : decode cX4_number 85 = .ok (.iload_n 3, 1) := by decide +kernel
theorem dX4_number_86 : decode cX4_number 86 = .ok (.if_icmp .eq 23, 3) := by decide +kernel
theorem dX4_number_89 : decode cX4_number 89 = .ok (.aload_n 0, 1) := by decide +kernel
theorem dX4_number_90 : decode cX4_number 90 = .ok (.getfield 19, 3) := by decide +kernel
theorem dX4_number_93 : decode cX4_number 93 = .ok (.iload_n 3, 1) := by decide +kernel
theorem dX4_number_94 : decode cX4_number 94 = .ok (.isub, 1) := by decide +kernel
theorem dX4_number_95 : decode cX4_number 95 = .ok (.iconst 2, 1) := by decide +kernel
theorem dX4_number_96 : decode cX4_number 96 = .ok (.if_icmp .gt 13, 3) := by decide +kernel
theorem dX4_number_99 : decode cX4_number 99 = .ok (.iload 4, 2) := by decide +kernel
theorem dX4_number_101 : decode cX4_number 101 = .ok (.iload_n 1, 1) := by decide +kernel
theorem dX4_number_102 : decode cX4_number 102 = .ok (.iload_n 2, 1) := by decide +kernel
theorem dX4_number_103 : decode cX4_number 103 = .ok (.invokestatic 102, 3) := by decide +kernel
theorem dX4_number_106 : decode cX4_number 106 = .ok (.ifCond .eq 8, 3) := by decide +kernel
theorem dX4_number_109 : decode cX4_number 109 = .ok (.aload_n 0, 1) := by decide +kernel
theorem dX4_number_110 : decode cX4_number 110 = .ok (.iload_n 3, 1) := by decide +kernel
theorem dX4_number_111 : decode cX4_number 111 = .ok (.invokevirtual 65, 3) := by decide +kernel
theorem dX4_number_114 : decode cX4_number 114 = .ok (.iload 4, 2) := by decide +kernel
theorem dX4_number_116 : decode cX4_number 116 = .ok (.ireturn, 1) := by decide +kernel
theorem dX4_end_0 : decode cX4_end 0 = .ok (.aload_n 0, 1) := by decide +kernel
theorem dX4_end_1 : decode cX4_end 1 = .ok (.invokevirtual 30, 3) := by decide +kernel
theorem dX4_end_4 : decode cX4_end 4 = .ok (.aload_n 0, 1) := by decide +kernel
theorem dX4_end_5 : decode cX4_end 5 = .ok (.aload_n 0, 1) := by decide +kernel
theorem dX4_end_6 : decode cX4_end 6 = .ok (.getfield 19, 3) := by decide +kernel
theorem dX4_end_9 : decode cX4_end 9 = .ok (.invokevirtual 112, 3) := by decide +kernel
theorem dX4_end_12 : decode cX4_end 12 = .ok (.bipush 59, 2) := by decide +kernel
theorem dX4_end_14 : decode cX4_end 14 = .ok (.if_icmp .eq 11, 3) := by decide +kernel
theorem dX4_end_17 : decode cX4_end 17 = .ok (.aload_n 0, 1) := by decide +kernel
theorem dX4_end_18 : decode cX4_end 18 = .ok (.aload_n 0, 1) := by decide +kernel
theorem dX4_end_19 : decode cX4_end 19 = .ok (.getfield 19, 3) := by decide +kernel
theorem dX4_end_22 : decode cX4_end 22 = .ok (.invokevirtual 65, 3) := by decide +kernel
theorem dX4_end_25 : decode cX4_end 25 = .ok (.aload_n 0, 1) := by decide +kernel
theorem dX4_end_26 : decode cX4_end 26 = .ok (.dup, 1) := by decide +kernel
theorem dX4_end_27 : decode cX4_end 27 = .ok (.getfield 19, 3) := by decide +kernel
theorem dX4_end_30 : decode cX4_end 30 = .ok (.iconst 1, 1) := by decide +kernel
theorem dX4_end_31 : decode cX4_end 31 = .ok (.iadd, 1) := by decide +kernel
theorem dX4_end_32 : decode cX4_end 32 = .ok (.putfield 19, 3) := by decide +kernel
theorem dX4_end_35 : decode cX4_end 35 = .ok (.return_, 1) := by decide +kernel
theorem dX5_init_0 : decode cX5_init 0 = .ok (.aload_n 0, 1) := by decide +kernel
theorem dX5_init_1 : decode cX5_init 1 = .ok (.invokespecial 3, 3) := by decide +kernel
theorem dX5_init_4 : decode cX5_init 4 = .ok (.aload_n 0, 1) := by decide +kernel
theorem dX5_init_5 : decode cX5_init 5 = .ok (.bipush 30, 2) := by decide +kernel
theorem dX5_init_7 : decode cX5_init 7 = .ok (.newarray .int, 2) := by decide +kernel
theorem dX5_init_9 : decode cX5_init 9 = .ok (.putfield 9, 3) := by decide +kernel
theorem dX5_init_12 : decode cX5_init 12 = .ok (.aload_n 0, 1) := by decide +kernel
theorem dX5_init_13 : decode cX5_init 13 = .ok (.iconst 0, 1) := by decide +kernel
theorem dX5_init_14 : decode cX5_init 14 = .ok (.putfield 15, 3) := by decide +kernel
theorem dX5_init_17 : decode cX5_init 17 = .ok (.aload_n 0, 1) := by decide +kernel
theorem dX5_init_18 : decode cX5_init 18 = .ok (.iconst 0, 1) := by decide +kernel
theorem dX5_init_19 : decode cX5_init 19 = .ok (.putfield 19, 3) := by decide +kernel
theorem dX5_init_22 : decode cX5_init 22 = .ok (.aload_n 0, 1) := by decide +kernel
theorem dX5_init_23 : decode cX5_init 23 = .ok (.iconst 0, 1) := by decide +kernel
theorem dX5_init_24 : decode cX5_init 24 = .ok (.putfield 22, 3) := by decide +kernel
theorem dX5_init_27 : decode cX5_init 27 = .ok (.aload_n 0, 1) := by decide +kernel
theorem dX5_init_28 : decode cX5_init 28 = .ok (.iconst 0, 1) := by decide +kernel
theorem dX5_init_29 : decode cX5_init 29 = .ok (.putfield 25, 3) := by decide +kernel
theorem dX5_init_32 : decode cX5_init 32 = .ok (.aload_n 0, 1) := by decide +kernel
theorem dX5_init_33 : decode cX5_init 33 = .ok (.iconst 0, 1) := by decide +kernel
theorem dX5_init_34 : decode cX5_init 34 = .ok (.putfield 28, 3) := by decide +kernel
theorem dX5_init_37 : decode cX5_init 37 = .ok (.return_, 1) := by decide +kernel
theorem dX5_become_0 : decode cX5_become 0 = .ok (.aload_n 0, 1) := by decide +kernel
theorem dX5_become_1 : decode cX5_become 1 = .ok (.iload_n 1, 1) := by decide +kernel
theorem dX5_become_2 : decode cX5_become 2 = .ok (.putfield 19, 3) := by decide +kernel
theorem dX5_become_5 : decode cX5_become 5 = .ok (.aload_n 0, 1) := by decide +kernel
theorem dX5_become_6 : decode cX5_become 6 = .ok (.iload_n 2, 1) := by decide +kernel
theorem dX5_become_7 : decode cX5_become 7 = .ok (.putfield 22, 3) := by decide +kernel
theorem dX5_become_10 : decode cX5_become 10 = .ok (.aload_n 0, 1) := by decide +kernel
theorem dX5_become_11 : decode cX5_become 11 = .ok (.iload_n 3, 1) := by decide +kernel
theorem dX5_become_12 : decode cX5_become 12 = .ok (.putfield 25, 3) := by decide +kernel
theorem dX5_become_15 : decode cX5_become 15 = .ok (.return_, 1) := by decide +kernel
theorem dX5_answer_0 : decode cX5_answer 0 = .ok (.aload_n 0, 1) := by decide +kernel
theorem dX5_answer_1 : decode cX5_answer 1 = .ok (.iconst 0, 1) := by decide +kernel
theorem dX5_answer_2 : decode cX5_answer 2 = .ok (.putfield 28, 3) := by decide +kernel
theorem dX5_answer_5 : decode cX5_answer 5 = .ok (.aload_n 0, 1) := by decide +kernel
theorem dX5_answer_6 : decode cX5_answer 6 = .ok (.iload_n 1, 1) := by decide +kernel
theorem dX5_answer_7 : decode cX5_answer 7 = .ok (.iload_n 2, 1) := by decide +kernel
theorem dX5_answer_8 : decode cX5_answer 8 = .ok (.iconst 0, 1) := by decide +kernel
theorem dX5_answer_9 : decode cX5_answer 9 = .ok (.invokevirtual 32, 3) := by decide +kernel
theorem dX5_answer_12 : decode cX5_answer 12 = .ok (.istore_n 3, 1) := by decide +kernel
theorem dX5_answer_13 : decode cX5_answer 13 = .ok (.aload_n 0, 1) := by decide +kernel
theorem dX5_answer_14 : decode cX5_answer 14 = .ok (.getfield 28, 3) := by decide +kernel
theorem dX5_answer_17 : decode cX5_answer 17 = .ok (.ifCond .eq 8, 3) := by decide +kernel
theorem dX5_answer_20 : decode cX5_answer 20 = .ok (.bipush (-15), 2) := by decide +kernel
theorem dX5_answer_22 : decode cX5_answer 22 = .ok (.goto 4, 3) := by decide +kernel
theorem dX5_answer_25 : decode cX5_answer 25 = .ok (.iload_n 3, 1) := by decide +kernel
theorem dX5_answer_26 : decode cX5_answer 26 = .ok (.ireturn, 1) := by decide +kernel
theorem dX5_own_0 : decode cX5_own 0 = .ok (.aload_n 0, 1) := by decide +kernel
theorem dX5_own_1 : decode cX5_own 1 = .ok (.getfield 19, 3) := by decide +kernel
theorem dX5_own_4 : decode cX5_own 4 = .ok (.iconst 4, 1) := by decide +kernel
theorem dX5_own_5 : decode cX5_own 5 = .ok (.imul, 1) := by decide +kernel
theorem dX5_own_6 : decode cX5_own 6 = .ok (.iload_n 1, 1) := by decide +kernel
theorem dX5_own_7 : decode cX5_own 7 = .ok (.iadd, 1) := by decide +kernel
theorem dX5_own_8 : decode cX5_own 8 = .ok (.istore 4, 2) := by decide +kernel
theorem dX5_own_10 : decode cX5_own 10 = .ok (.iload 4, 2) := by decide +kernel
theorem dX5_own_12 : decode cX5_own 12 = .ok (.ifCond .lt 12, 3) := by decide +kernel
theorem dX5_own_15 : decode cX5_own 15 = .ok (.iload 4, 2) := by decide +kernel
theorem dX5_own_17 : decode cX5_own 17 = .ok (.getstatic 36, 3) := by decide +kernel
theorem dX5_own_20 : decode cX5_own 20 = .ok (.arraylength, 1) := by decide +kernel
theorem dX5_own_21 : decode cX5_own 21 = .ok (.if_icmp .lt 7, 3) := by decide +kernel
theorem dX5_own_24 : decode cX5_own 24 = .ok (.iconst 0, 1) := by decide +kernel
theorem dX5_own_25 : decode cX5_own 25 = .ok (.goto 15, 3) := by decide +kernel
theorem dX5_own_28 : decode cX5_own 28 = .ok (.aload_n 0, 1) := by decide +kernel
theorem dX5_own_29 : decode cX5_own 29 = .ok (.getstatic 36, 3) := by decide +kernel
theorem dX5_own_32 : decode cX5_own 32 = .ok (.iload 4, 2) := by decide +kernel
theorem dX5_own_34 : decode cX5_own 34 = .ok (.iaload, 1) := by decide +kernel
theorem dX5_own_35 : decode cX5_own 35 = .ok (.iload_n 2, 1) := by decide +kernel
theorem dX5_own_36 : decode cX5_own 36 = .ok (.iload_n 3, 1) := by decide +kernel
theorem dX5_own_37 : decode cX5_own 37 = .ok (.invokevirtual 39, 3) := by decide +kernel
theorem dX5_own_40 : decode cX5_own 40 = .ok (.ireturn, 1) := by decide +kernel
theorem dX5_body_0 : decode cX5_body 0 = .ok (.aload_n 0, 1) := by decide +kernel
theorem dX5_body_1 : decode cX5_body 1 = .ok (.getfield 28, 3) := by decide +kernel
theorem dX5_body_4 : decode cX5_body 4 = .ok (.ifCond .ne 9, 3) := by decide +kernel
theorem dX5_body_7 : decode cX5_body 7 = .ok (.iload_n 3, 1) := by decide +kernel
theorem dX5_body_8 : decode cX5_body 8 = .ok (.bipush 20, 2) := by decide +kernel
theorem dX5_body_10 : decode cX5_body 10 = .ok (.if_icmp .le 5, 3) := by decide +kernel
theorem dX5_body_13 : decode cX5_body 13 = .ok (.iconst 0, 1) := by decide +kernel
theorem dX5_body_14 : decode cX5_body 14 = .ok (.ireturn, 1) := by decide +kernel
theorem dX5_body_15 : decode cX5_body 15 = .ok (.aload_n 0, 1) := by decide +kernel
theorem dX5_body_16 : decode cX5_body 16 = .ok (.iload_n 1, 1) := by decide +kernel
theorem dX5_body_17 : decode cX5_body 17 = .ok (.invokevirtual 42, 3) := by decide +kernel
theorem dX5_body_20 : decode cX5_body 20 = .ok (.iload_n 3, 1) := by decide +kernel
theorem dX5_body_21 : decode cX5_body 21 = .ok (.iconst 1, 1) := by decide +kernel
theorem dX5_body_22 : decode cX5_body 22 = .ok (.iadd, 1) := by decide +kernel
theorem dX5_body_23 : decode cX5_body 23 = .ok (.istore 4, 2) := by decide +kernel
theorem dX5_body_25 : decode cX5_body 25 = .ok (.iload_n 1, 1) := by decide +kernel
theorem dX5_body_26 : decode cX5_body 26 = .ok (.tableswitch 406 10 61 #[222, 229, 240, 246, 406, 406, 406, 406, 406, 406, 260, 406, 406, 406, 406, 406, 406, 406, 406, 406, 275, 287, 406, 406, 406, 406, 406, 406, 406, 406, 309, 321, 406, 406, 406, 406, 406, 406, 406, 406, 343, 357, 406, 406, 406, 406, 406, 406, 406, 406, 372, 384], 222) := by decide +kernel
theorem dX5_body_248 : decode cX5_body 248 = .ok (.iload_n 2, 1) := by decide +kernel
theorem dX5_body_249 : decode cX5_body 249 = .ok (.aload_n 0, 1) := by decide +kernel
theorem dX5_body_250 : decode cX5_body 250 = .ok (.getfield 22, 3) := by decide +kernel
theorem dX5_body_253 : decode cX5_body 253 = .ok (.iadd, 1) := by decide +kernel
theorem dX5_body_254 : decode cX5_body 254 = .ok (.ireturn, 1) := by decide +kernel
theorem dX5_body_255 : decode cX5_body 255 = .ok (.aload_n 0, 1) := by decide +kernel
theorem dX5_body_256 : decode cX5_body 256 = .ok (.iconst 0, 1) := by decide +kernel
theorem dX5_body_257 : decode cX5_body 257 = .ok (.iload_n 2, 1) := by decide +kernel
theorem dX5_body_258 : decode cX5_body 258 = .ok (.iload 4, 2) := by decide +kernel
theorem dX5_body_260 : decode cX5_body 260 = .ok (.invokevirtual 32, 3) := by decide +kernel
theorem dX5_body_263 : decode cX5_body 263 = .ok (.iconst 2, 1) := by decide +kernel
theorem dX5_body_264 : decode cX5_body 264 = .ok (.imul, 1) := by decide +kernel
theorem dX5_body_265 : decode cX5_body 265 = .ok (.ireturn, 1) := by decide +kernel
theorem dX5_body_266 : decode cX5_body 266 = .ok (.aload_n 0, 1) := by decide +kernel
theorem dX5_body_267 : decode cX5_body 267 = .ok (.iload_n 2, 1) := by decide +kernel
theorem dX5_body_268 : decode cX5_body 268 = .ok (.invokevirtual 46, 3) := by decide +kernel
theorem dX5_body_271 : decode cX5_body 271 = .ok (.ireturn, 1) := by decide +kernel
theorem dX5_body_272 : decode cX5_body 272 = .ok (.aload_n 0, 1) := by decide +kernel
theorem dX5_body_273 : decode cX5_body 273 = .ok (.iconst 1, 1) := by decide +kernel
theorem dX5_body_274 : decode cX5_body 274 = .ok (.iload_n 2, 1) := by decide +kernel
theorem dX5_body_275 : decode cX5_body 275 = .ok (.iload 4, 2) := by decide +kernel
theorem dX5_body_277 : decode cX5_body 277 = .ok (.invokevirtual 32, 3) := by decide +kernel
theorem dX5_body_280 : decode cX5_body 280 = .ok (.aload_n 0, 1) := by decide +kernel
theorem dX5_body_281 : decode cX5_body 281 = .ok (.getfield 25, 3) := by decide +kernel
theorem dX5_body_284 : decode cX5_body 284 = .ok (.ixor, 1) := by decide +kernel
theorem dX5_body_285 : decode cX5_body 285 = .ok (.ireturn, 1) := by decide +kernel
theorem dX5_body_286 : decode cX5_body 286 = .ok (.aload_n 0, 1) := by decide +kernel
theorem dX5_body_287 : decode cX5_body 287 = .ok (.bipush 11, 2) := by decide +kernel
theorem dX5_body_289 : decode cX5_body 289 = .ok (.iload_n 2, 1) := by decide +kernel
theorem dX5_body_290 : decode cX5_body 290 = .ok (.iload 4, 2) := by decide +kernel
theorem dX5_body_292 : decode cX5_body 292 = .ok (.invokevirtual 39, 3) := by decide +kernel
theorem dX5_body_295 : decode cX5_body 295 = .ok (.aload_n 0, 1) := by decide +kernel
theorem dX5_body_296 : decode cX5_body 296 = .ok (.getfield 25, 3) := by decide +kernel
theorem dX5_body_299 : decode cX5_body 299 = .ok (.isub, 1) := by decide +kernel
theorem dX5_body_300 : decode cX5_body 300 = .ok (.ireturn, 1) := by decide +kernel
theorem dX5_body_301 : decode cX5_body 301 = .ok (.aload_n 0, 1) := by decide +kernel
theorem dX5_body_302 : decode cX5_body 302 = .ok (.bipush 10, 2) := by decide +kernel
theorem dX5_body_304 : decode cX5_body 304 = .ok (.iload_n 2, 1) := by decide +kernel
theorem dX5_body_305 : decode cX5_body 305 = .ok (.iload 4, 2) := by decide +kernel
theorem dX5_body_307 : decode cX5_body 307 = .ok (.invokevirtual 39, 3) := by decide +kernel
theorem dX5_body_310 : decode cX5_body 310 = .ok (.iconst 3, 1) := by decide +kernel
theorem dX5_body_311 : decode cX5_body 311 = .ok (.imul, 1) := by decide +kernel
theorem dX5_body_312 : decode cX5_body 312 = .ok (.ireturn, 1) := by decide +kernel
theorem dX5_body_313 : decode cX5_body 313 = .ok (.aload_n 0, 1) := by decide +kernel
theorem dX5_body_314 : decode cX5_body 314 = .ok (.bipush 13, 2) := by decide +kernel
theorem dX5_body_316 : decode cX5_body 316 = .ok (.iload_n 2, 1) := by decide +kernel
theorem dX5_body_317 : decode cX5_body 317 = .ok (.iload 4, 2) := by decide +kernel
theorem dX5_body_319 : decode cX5_body 319 = .ok (.invokevirtual 39, 3) := by decide +kernel
theorem dX5_body_322 : decode cX5_body 322 = .ok (.aload_n 0, 1) := by decide +kernel
theorem dX5_body_323 : decode cX5_body 323 = .ok (.iconst 2, 1) := by decide +kernel
theorem dX5_body_324 : decode cX5_body 324 = .ok (.aload_n 0, 1) := by decide +kernel
theorem dX5_body_325 : decode cX5_body 325 = .ok (.getfield 22, 3) := by decide +kernel
theorem dX5_body_328 : decode cX5_body 328 = .ok (.iload 4, 2) := by decide +kernel
theorem dX5_body_330 : decode cX5_body 330 = .ok (.invokevirtual 32, 3) := by decide +kernel
theorem dX5_body_333 : decode cX5_body 333 = .ok (.iadd, 1) := by decide +kernel
theorem dX5_body_334 : decode cX5_body 334 = .ok (.ireturn, 1) := by decide +kernel
theorem dX5_body_335 : decode cX5_body 335 = .ok (.iconst 0, 1) := by decide +kernel
theorem dX5_body_336 : decode cX5_body 336 = .ok (.aload_n 0, 1) := by decide +kernel
theorem dX5_body_337 : decode cX5_body 337 = .ok (.bipush 10, 2) := by decide +kernel
theorem dX5_body_339 : decode cX5_body 339 = .ok (.iload_n 2, 1) := by decide +kernel
theorem dX5_body_340 : decode cX5_body 340 = .ok (.iload 4, 2) := by decide +kernel
theorem dX5_body_342 : decode cX5_body 342 = .ok (.invokevirtual 39, 3) := by decide +kernel
theorem dX5_body_345 : decode cX5_body 345 = .ok (.isub, 1) := by decide +kernel
theorem dX5_body_346 : decode cX5_body 346 = .ok (.ireturn, 1) := by decide +kernel
theorem dX5_body_347 : decode cX5_body 347 = .ok (.aload_n 0, 1) := by decide +kernel
theorem dX5_body_348 : decode cX5_body 348 = .ok (.bipush 20, 2) := by decide +kernel
theorem dX5_body_350 : decode cX5_body 350 = .ok (.iload_n 2, 1) := by decide +kernel
theorem dX5_body_351 : decode cX5_body 351 = .ok (.iload 4, 2) := by decide +kernel
theorem dX5_body_353 : decode cX5_body 353 = .ok (.invokevirtual 39, 3) := by decide +kernel
theorem dX5_body_356 : decode cX5_body 356 = .ok (.aload_n 0, 1) := by decide +kernel
theorem dX5_body_357 : decode cX5_body 357 = .ok (.iconst 0, 1) := by decide +kernel
theorem dX5_body_358 : decode cX5_body 358 = .ok (.aload_n 0, 1) := by decide +kernel
theorem dX5_body_359 : decode cX5_body 359 = .ok (.getfield 22, 3) := by decide +kernel
theorem dX5_body_362 : decode cX5_body 362 = .ok (.iload 4, 2) := by decide +kernel
theorem dX5_body_364 : decode cX5_body 364 = .ok (.invokevirtual 32, 3) := by decide +kernel
theorem dX5_body_367 : decode cX5_body 367 = .ok (.iadd, 1) := by decide +kernel
theorem dX5_body_368 : decode cX5_body 368 = .ok (.ireturn, 1) := by decide +kernel
theorem dX5_body_369 : decode cX5_body 369 = .ok (.aload_n 0, 1) := by decide +kernel
theorem dX5_body_370 : decode cX5_body 370 = .ok (.bipush 12, 2) := by decide +kernel
theorem dX5_body_372 : decode cX5_body 372 = .ok (.iload_n 2, 1) := by decide +kernel
theorem dX5_body_373 : decode cX5_body 373 = .ok (.iconst 2, 1) := by decide +kernel
theorem dX5_body_374 : decode cX5_body 374 = .ok (.iadd, 1) := by decide +kernel
theorem dX5_body_375 : decode cX5_body 375 = .ok (.iload 4, 2) := by decide +kernel
theorem dX5_body_377 : decode cX5_body 377 = .ok (.invokevirtual 39, 3) := by decide +kernel
theorem dX5_body_380 : decode cX5_body 380 = .ok (.iconst 1, 1) := by decide +kernel
theorem dX5_body_381 : decode cX5_body 381 = .ok (.ixor, 1) := by decide +kernel
theorem dX5_body_382 : decode cX5_body 382 = .ok (.ireturn, 1) := by decide +kernel
theorem dX5_body_383 : decode cX5_body 383 = .ok (.aload_n 0, 1) := by decide +kernel
theorem dX5_body_384 : decode cX5_body 384 = .ok (.bipush 10, 2) := by decide +kernel
theorem dX5_body_386 : decode cX5_body 386 = .ok (.iload_n 2, 1) := by decide +kernel
theorem dX5_body_387 : decode cX5_body 387 = .ok (.iload 4, 2) := by decide +kernel
theorem dX5_body_389 : decode cX5_body 389 = .ok (.invokevirtual 39, 3) := by decide +kernel
theorem dX5_body_392 : decode cX5_body 392 = .ok (.aload_n 0, 1) := by decide +kernel
theorem dX5_body_393 : decode cX5_body 393 = .ok (.getfield 22, 3) := by decide +kernel
theorem dX5_body_396 : decode cX5_body 396 = .ok (.isub, 1) := by decide +kernel
theorem dX5_body_397 : decode cX5_body 397 = .ok (.ireturn, 1) := by decide +kernel
theorem dX5_body_398 : decode cX5_body 398 = .ok (.aload_n 0, 1) := by decide +kernel
theorem dX5_body_399 : decode cX5_body 399 = .ok (.bipush 13, 2) := by decide +kernel
theorem dX5_body_401 : decode cX5_body 401 = .ok (.iload_n 2, 1) := by decide +kernel
theorem dX5_body_402 : decode cX5_body 402 = .ok (.iload 4, 2) := by decide +kernel
theorem dX5_body_404 : decode cX5_body 404 = .ok (.invokevirtual 39, 3) := by decide +kernel
theorem dX5_body_407 : decode cX5_body 407 = .ok (.iconst 2, 1) := by decide +kernel
theorem dX5_body_408 : decode cX5_body 408 = .ok (.imul, 1) := by decide +kernel
theorem dX5_body_409 : decode cX5_body 409 = .ok (.ireturn, 1) := by decide +kernel
theorem dX5_body_410 : decode cX5_body 410 = .ok (.aload_n 0, 1) := by decide +kernel
theorem dX5_body_411 : decode cX5_body 411 = .ok (.bipush 12, 2) := by decide +kernel
theorem dX5_body_413 : decode cX5_body 413 = .ok (.iload_n 2, 1) := by decide +kernel
theorem dX5_body_414 : decode cX5_body 414 = .ok (.iload 4, 2) := by decide +kernel
theorem dX5_body_416 : decode cX5_body 416 = .ok (.invokevirtual 39, 3) := by decide +kernel
theorem dX5_body_419 : decode cX5_body 419 = .ok (.aload_n 0, 1) := by decide +kernel
theorem dX5_body_420 : decode cX5_body 420 = .ok (.iconst 0, 1) := by decide +kernel
theorem dX5_body_421 : decode cX5_body 421 = .ok (.aload_n 0, 1) := by decide +kernel
theorem dX5_body_422 : decode cX5_body 422 = .ok (.getfield 25, 3) := by decide +kernel
theorem dX5_body_425 : decode cX5_body 425 = .ok (.iload 4, 2) := by decide +kernel
theorem dX5_body_427 : decode cX5_body 427 = .ok (.invokevirtual 32, 3) := by decide +kernel
theorem dX5_body_430 : decode cX5_body 430 = .ok (.iadd, 1) := by decide +kernel
theorem dX5_body_431 : decode cX5_body 431 = .ok (.ireturn, 1) := by decide +kernel
theorem dX5_body_432 : decode cX5_body 432 = .ok (.iconst 0, 1) := by decide +kernel
theorem dX5_body_433 : decode cX5_body 433 = .ok (.ireturn, 1) := by decide +kernel
theorem dX5_part_0 : decode cX5_part 0 = .ok (.aload_n 0, 1) := by decide +kernel
theorem dX5_part_1 : decode cX5_part 1 = .ok (.getfield 25, 3) := by decide +kernel
theorem dX5_part_4 : decode cX5_part 4 = .ok (.aload_n 0, 1) := by decide +kernel
theorem dX5_part_5 : decode cX5_part 5 = .ok (.getfield 22, 3) := by decide +kernel
theorem dX5_part_8 : decode cX5_part 8 = .ok (.isub, 1) := by decide +kernel
theorem dX5_part_9 : decode cX5_part 9 = .ok (.istore_n 2, 1) := by decide +kernel
theorem dX5_part_10 : decode cX5_part 10 = .ok (.iload_n 2, 1) := by decide +kernel
theorem dX5_part_11 : decode cX5_part 11 = .ok (.ifCond .ne 10, 3) := by decide +kernel
theorem dX5_part_14 : decode cX5_part 14 = .ok (.aload_n 0, 1) := by decide +kernel
theorem dX5_part_15 : decode cX5_part 15 = .ok (.iconst 1, 1) := by decide +kernel
theorem dX5_part_16 : decode cX5_part 16 = .ok (.putfield 28, 3) := by decide +kernel
theorem dX5_part_19 : decode cX5_part 19 = .ok (.iconst 0, 1) := by decide +kernel
theorem dX5_part_20 : decode cX5_part 20 = .ok (.ireturn, 1) := by decide +kernel
theorem dX5_part_21 : decode cX5_part 21 = .ok (.iload_n 1, 1) := by decide +kernel
theorem dX5_part_22 : decode cX5_part 22 = .ok (.iload_n 2, 1) := by decide +kernel
theorem dX5_part_23 : decode cX5_part 23 = .ok (.idiv, 1) := by decide +kernel
theorem dX5_part_24 : decode cX5_part 24 = .ok (.ireturn, 1) := by decide +kernel
theorem dX5_note_0 : decode cX5_note 0 = .ok (.aload_n 0, 1) := by decide +kernel
theorem dX5_note_1 : decode cX5_note 1 = .ok (.getfield 15, 3) := by decide +kernel
theorem dX5_note_4 : decode cX5_note 4 = .ok (.ifCond .lt 32, 3) := by decide +kernel
theorem dX5_note_7 : decode cX5_note 7 = .ok (.aload_n 0, 1) := by decide +kernel
theorem dX5_note_8 : decode cX5_note 8 = .ok (.getfield 15, 3) := by decide +kernel
theorem dX5_note_11 : decode cX5_note 11 = .ok (.bipush 30, 2) := by decide +kernel
theorem dX5_note_13 : decode cX5_note 13 = .ok (.if_icmp .ge 23, 3) := by decide +kernel
theorem dX5_note_16 : decode cX5_note 16 = .ok (.aload_n 0, 1) := by decide +kernel
theorem dX5_note_17 : decode cX5_note 17 = .ok (.getfield 9, 3) := by decide +kernel
theorem dX5_note_20 : decode cX5_note 20 = .ok (.aload_n 0, 1) := by decide +kernel
theorem dX5_note_21 : decode cX5_note 21 = .ok (.getfield 15, 3) := by decide +kernel
theorem dX5_note_24 : decode cX5_note 24 = .ok (.iload_n 1, 1) := by decide +kernel
theorem dX5_note_25 : decode cX5_note 25 = .ok (.iastore, 1) := by decide +kernel
theorem dX5_note_26 : decode cX5_note 26 = .ok (.aload_n 0, 1) := by decide +kernel
theorem dX5_note_27 : decode cX5_note 27 = .ok (.dup, 1) := by decide +kernel
theorem dX5_note_28 : decode cX5_note 28 = .ok (.getfield 15, 3) := by decide +kernel
theorem dX5_note_31 : decode cX5_note 31 = .ok (.iconst 1, 1) := by decide +kernel
theorem dX5_note_32 : decode cX5_note 32 = .ok (.iadd, 1) := by decide +kernel
theorem dX5_note_33 : decode cX5_note 33 = .ok (.putfield 15, 3) := by decide +kernel
theorem dX5_note_36 : decode cX5_note 36 = .ok (.return_, 1) := by decide +kernel
theorem dJ9_abs_0f7a4_0 : decode cJ9_abs_0f7a4 0 = .ok (.iload_n 0, 1) := by decide +kernel
theorem dJ9_abs_0f7a4_1 : decode cJ9_abs_0f7a4 1 = .ok (.ifCond .ge 8, 3) := by decide +kernel
theorem dJ9_abs_0f7a4_4 : decode cJ9_abs_0f7a4 4 = .ok (.iload_n 0, 1) := by decide +kernel
theorem dJ9_abs_0f7a4_5 : decode cJ9_abs_0f7a4 5 = .ok (.ineg, 1) := by decide +kernel
theorem dJ9_abs_0f7a4_6 : decode cJ9_abs_0f7a4 6 = .ok (.goto 4, 3) := by decide +kernel
theorem dJ9_abs_0f7a4_9 : decode cJ9_abs_0f7a4 9 = .ok (.iload_n 0, 1) := by decide +kernel
theorem dJ9_abs_0f7a4_10 : decode cJ9_abs_0f7a4 10 = .ok (.ireturn, 1) := by decide +kernel
theorem dJ9_max_7cf53_0 : decode cJ9_max_7cf53 0 = .ok (.iload_n 0, 1) := by decide +kernel
theorem dJ9_max_7cf53_1 : decode cJ9_max_7cf53 1 = .ok (.iload_n 1, 1) := by decide +kernel
theorem dJ9_max_7cf53_2 : decode cJ9_max_7cf53 2 = .ok (.if_icmp .lt 7, 3) := by decide +kernel
theorem dJ9_max_7cf53_5 : decode cJ9_max_7cf53 5 = .ok (.iload_n 0, 1) := by decide +kernel
theorem dJ9_max_7cf53_6 : decode cJ9_max_7cf53 6 = .ok (.goto 4, 3) := by decide +kernel
theorem dJ9_max_7cf53_9 : decode cJ9_max_7cf53 9 = .ok (.iload_n 1, 1) := by decide +kernel
theorem dJ9_max_7cf53_10 : decode cJ9_max_7cf53 10 = .ok (.ireturn, 1) := by decide +kernel
theorem dJ9_min_7cf53_0 : decode cJ9_min_7cf53 0 = .ok (.iload_n 0, 1) := by decide +kernel
theorem dJ9_min_7cf53_1 : decode cJ9_min_7cf53 1 = .ok (.iload_n 1, 1) := by decide +kernel
theorem dJ9_min_7cf53_2 : decode cJ9_min_7cf53 2 = .ok (.if_icmp .gt 7, 3) := by decide +kernel
theorem dJ9_min_7cf53_5 : decode cJ9_min_7cf53 5 = .ok (.iload_n 0, 1) := by decide +kernel
theorem dJ9_min_7cf53_6 : decode cJ9_min_7cf53 6 = .ok (.goto 4, 3) := by decide +kernel
theorem dJ9_min_7cf53_9 : decode cJ9_min_7cf53 9 = .ok (.iload_n 1, 1) := by decide +kernel
theorem dJ9_min_7cf53_10 : decode cJ9_min_7cf53 10 = .ok (.ireturn, 1) := by decide +kernel
theorem dJ0_length_8abf5_0 : decode cJ0_length_8abf5 0 = .ok (.aload_n 0, 1) := by decide +kernel
theorem dJ0_length_8abf5_1 : decode cJ0_length_8abf5 1 = .ok (.getfield 9, 3) := by decide +kernel
theorem dJ0_length_8abf5_4 : decode cJ0_length_8abf5 4 = .ok (.arraylength, 1) := by decide +kernel
theorem dJ0_length_8abf5_5 : decode cJ0_length_8abf5 5 = .ok (.aload_n 0, 1) := by decide +kernel
theorem dJ0_length_8abf5_6 : decode cJ0_length_8abf5 6 = .ok (.invokevirtual 335, 3) := by decide +kernel
theorem dJ0_length_8abf5_9 : decode cJ0_length_8abf5 9 = .ok (.ishr, 1) := by decide +kernel
theorem dJ0_length_8abf5_10 : decode cJ0_length_8abf5 10 = .ok (.ireturn, 1) := by decide +kernel
theorem dJ0_charAt_5068e_0 : decode cJ0_charAt_5068e 0 = .ok (.aload_n 0, 1) := by decide +kernel
theorem dJ0_charAt_5068e_1 : decode cJ0_charAt_5068e 1 = .ok (.invokevirtual 492, 3) := by decide +kernel
theorem dJ0_charAt_5068e_4 : decode cJ0_charAt_5068e 4 = .ok (.ifCond .eq 12, 3) := by decide +kernel
theorem dJ0_charAt_5068e_7 : decode cJ0_charAt_5068e 7 = .ok (.aload_n 0, 1) := by decide +kernel
theorem dJ0_charAt_5068e_8 : decode cJ0_charAt_5068e 8 = .ok (.getfield 9, 3) := by decide +kernel
theorem dJ0_charAt_5068e_11 : decode cJ0_charAt_5068e 11 = .ok (.iload_n 1, 1) := by decide +kernel
theorem dJ0_charAt_5068e_12 : decode cJ0_charAt_5068e 12 = .ok (.invokestatic 495, 3) := by decide +kernel
theorem dJ0_charAt_5068e_15 : decode cJ0_charAt_5068e 15 = .ok (.ireturn, 1) := by decide +kernel
theorem dJ0_charAt_5068e_16 : decode cJ0_charAt_5068e 16 = .ok (.aload_n 0, 1) := by decide +kernel
theorem dJ0_charAt_5068e_17 : decode cJ0_charAt_5068e 17 = .ok (.getfield 9, 3) := by decide +kernel
theorem dJ0_charAt_5068e_20 : decode cJ0_charAt_5068e 20 = .ok (.iload_n 1, 1) := by decide +kernel
theorem dJ0_charAt_5068e_21 : decode cJ0_charAt_5068e 21 = .ok (.invokestatic 498, 3) := by decide +kernel
theorem dJ0_charAt_5068e_24 : decode cJ0_charAt_5068e 24 = .ok (.ireturn, 1) := by decide +kernel
theorem dJ0_coder_7d493_0 : decode cJ0_coder_7d493 0 = .ok (.getstatic 38, 3) := by decide +kernel
theorem dJ0_coder_7d493_3 : decode cJ0_coder_7d493 3 = .ok (.ifCond .eq 10, 3) := by decide +kernel
theorem dJ0_coder_7d493_6 : decode cJ0_coder_7d493 6 = .ok (.aload_n 0, 1) := by decide +kernel
theorem dJ0_coder_7d493_7 : decode cJ0_coder_7d493 7 = .ok (.getfield 15, 3) := by decide +kernel
theorem dJ0_coder_7d493_10 : decode cJ0_coder_7d493 10 = .ok (.goto 4, 3) := by decide +kernel
theorem dJ0_coder_7d493_13 : decode cJ0_coder_7d493 13 = .ok (.iconst 1, 1) := by decide +kernel
theorem dJ0_coder_7d493_14 : decode cJ0_coder_7d493 14 = .ok (.ireturn, 1) := by decide +kernel
theorem dJ0_isLatin1_aae02_0 : decode cJ0_isLatin1_aae02 0 = .ok (.getstatic 38, 3) := by decide +kernel
theorem dJ0_isLatin1_aae02_3 : decode cJ0_isLatin1_aae02 3 = .ok (.ifCond .eq 14, 3) := by decide +kernel
theorem dJ0_isLatin1_aae02_6 : decode cJ0_isLatin1_aae02 6 = .ok (.aload_n 0, 1) := by decide +kernel
theorem dJ0_isLatin1_aae02_7 : decode cJ0_isLatin1_aae02 7 = .ok (.getfield 15, 3) := by decide +kernel
theorem dJ0_isLatin1_aae02_10 : decode cJ0_isLatin1_aae02 10 = .ok (.ifCond .ne 7, 3) := by decide +kernel
theorem dJ0_isLatin1_aae02_13 : decode cJ0_isLatin1_aae02 13 = .ok (.iconst 1, 1) := by decide +kernel
theorem dJ0_isLatin1_aae02_14 : decode cJ0_isLatin1_aae02 14 = .ok (.goto 4, 3) := by decide +kernel
theorem dJ0_isLatin1_aae02_17 : decode cJ0_isLatin1_aae02 17 = .ok (.iconst 0, 1) := by decide +kernel
theorem dJ0_isLatin1_aae02_18 : decode cJ0_isLatin1_aae02 18 = .ok (.ireturn, 1) := by decide +kernel
theorem dJ0_checkIndex_df160_0 : decode cJ0_checkIndex_df160 0 = .ok (.iload_n 0, 1) := by decide +kernel
theorem dJ0_checkIndex_df160_1 : decode cJ0_checkIndex_df160 1 = .ok (.iload_n 1, 1) := by decide +kernel
theorem dJ0_checkIndex_df160_2 : decode cJ0_checkIndex_df160 2 = .ok (.getstatic 1053, 3) := by decide +kernel
theorem dJ0_checkIndex_df160_5 : decode cJ0_checkIndex_df160 5 = .ok (.invokestatic 1059, 3) := by decide +kernel
theorem dJ0_checkIndex_df160_8 : decode cJ0_checkIndex_df160 8 = .ok (.pop, 1) := by decide +kernel
theorem dJ0_checkIndex_df160_9 : decode cJ0_checkIndex_df160 9 = .ok (.return_, 1) := by decide +kernel
theorem dJ1_charAt_3b067_0 : decode cJ1_charAt_3b067 0 = .ok (.iload_n 1, 1) := by decide +kernel
theorem dJ1_charAt_3b067_1 : decode cJ1_charAt_3b067 1 = .ok (.aload_n 0, 1) := by decide +kernel
theorem dJ1_charAt_3b067_2 : decode cJ1_charAt_3b067 2 = .ok (.arraylength, 1) := by decide +kernel
theorem dJ1_charAt_3b067_3 : decode cJ1_charAt_3b067 3 = .ok (.invokestatic 9, 3) := by decide +kernel
theorem dJ1_charAt_3b067_6 : decode cJ1_charAt_3b067 6 = .ok (.aload_n 0, 1) := by decide +kernel
theorem dJ1_charAt_3b067_7 : decode cJ1_charAt_3b067 7 = .ok (.iload_n 1, 1) := by decide +kernel
theorem dJ1_charAt_3b067_8 : decode cJ1_charAt_3b067 8 = .ok (.baload, 1) := by decide +kernel
theorem dJ1_charAt_3b067_9 : decode cJ1_charAt_3b067 9 = .ok (.sipush 255, 3) := by decide +kernel
theorem dJ1_charAt_3b067_12 : decode cJ1_charAt_3b067 12 = .ok (.iand, 1) := by decide +kernel
theorem dJ1_charAt_3b067_13 : decode cJ1_charAt_3b067 13 = .ok (.i2c, 1) := by decide +kernel
theorem dJ1_charAt_3b067_14 : decode cJ1_charAt_3b067 14 = .ok (.ireturn, 1) := by decide +kernel
theorem dJ2_getChar_3b067_0 : decode cJ2_getChar_3b067 0 = .ok (.getstatic 44, 3) := by decide +kernel
theorem dJ2_getChar_3b067_3 : decode cJ2_getChar_3b067 3 = .ok (.ifCond .ne 25, 3) := by decide +kernel
theorem dJ2_getChar_3b067_6 : decode cJ2_getChar_3b067 6 = .ok (.iload_n 1, 1) := by decide +kernel
theorem dJ2_getChar_3b067_7 : decode cJ2_getChar_3b067 7 = .ok (.ifCond .lt 11, 3) := by decide +kernel
theorem dJ2_getChar_3b067_10 : decode cJ2_getChar_3b067 10 = .ok (.iload_n 1, 1) := by decide +kernel
theorem dJ2_getChar_3b067_11 : decode cJ2_getChar_3b067 11 = .ok (.aload_n 0, 1) := by decide +kernel
theorem dJ2_getChar_3b067_12 : decode cJ2_getChar_3b067 12 = .ok (.invokestatic 48, 3) := by decide +kernel
theorem dJ2_getChar_3b067_15 : decode cJ2_getChar_3b067 15 = .ok (.if_icmp .lt 13, 3) := by decide +kernel
theorem dJ2_getChar_3b067_18 : decode cJ2_getChar_3b067 18 = .ok (.new 52, 3) := by decide +kernel
theorem dJ2_getChar_3b067_21 : decode cJ2_getChar_3b067 21 = .ok (.dup, 1) := by decide +kernel
theorem dJ2_getChar_3b067_22 : decode cJ2_getChar_3b067 22 = .ok (.ldc 54, 2) := by decide +kernel
theorem dJ2_getChar_3b067_24 : decode cJ2_getChar_3b067 24 = .ok (.invokespecial 56, 3) := by decide +kernel
theorem dJ2_getChar_3b067_27 : decode cJ2_getChar_3b067 27 = .ok (.athrow, 1) := by decide +kernel
theorem dJ2_getChar_3b067_28 : decode cJ2_getChar_3b067 28 = .ok (.iload_n 1, 1) := by decide +kernel
theorem dJ2_getChar_3b067_29 : decode cJ2_getChar_3b067 29 = .ok (.iconst 1, 1) := by decide +kernel
theorem dJ2_getChar_3b067_30 : decode cJ2_getChar_3b067 30 = .ok (.ishl, 1) := by decide +kernel
theorem dJ2_getChar_3b067_31 : decode cJ2_getChar_3b067 31 = .ok (.istore_n 1, 1) := by decide +kernel
theorem dJ2_getChar_3b067_32 : decode cJ2_getChar_3b067 32 = .ok (.aload_n 0, 1) := by decide +kernel
theorem dJ2_getChar_3b067_33 : decode cJ2_getChar_3b067 33 = .ok (.iload_n 1, 1) := by decide +kernel
theorem dJ2_getChar_3b067_34 : decode cJ2_getChar_3b067 34 = .ok (.iinc 1 1, 3) := by decide +kernel
theorem dJ2_getChar_3b067_37 : decode cJ2_getChar_3b067 37 = .ok (.baload, 1) := by decide +kernel
theorem dJ2_getChar_3b067_38 : decode cJ2_getChar_3b067 38 = .ok (.sipush 255, 3) := by decide +kernel
theorem dJ2_getChar_3b067_41 : decode cJ2_getChar_3b067 41 = .ok (.iand, 1) := by decide +kernel
theorem dJ2_getChar_3b067_42 : decode cJ2_getChar_3b067 42 = .ok (.getstatic 59, 3) := by decide +kernel
theorem dJ2_getChar_3b067_45 : decode cJ2_getChar_3b067 45 = .ok (.ishl, 1) := by decide +kernel
theorem dJ2_getChar_3b067_46 : decode cJ2_getChar_3b067 46 = .ok (.aload_n 0, 1) := by decide +kernel
theorem dJ2_getChar_3b067_47 : decode cJ2_getChar_3b067 47 = .ok (.iload_n 1, 1) := by decide +kernel
theorem dJ2_getChar_3b067_48 : decode cJ2_getChar_3b067 48 = .ok (.baload, 1) := by decide +kernel
theorem dJ2_getChar_3b067_49 : decode cJ2_getChar_3b067 49 = .ok (.sipush 255, 3) := by decide +kernel
theorem dJ2_getChar_3b067_52 : decode cJ2_getChar_3b067 52 = .ok (.iand, 1) := by decide +kernel
theorem dJ2_getChar_3b067_53 : decode cJ2_getChar_3b067 53 = .ok (.getstatic 63, 3) := by decide +kernel
theorem dJ2_getChar_3b067_56 : decode cJ2_getChar_3b067 56 = .ok (.ishl, 1) := by decide +kernel
theorem dJ2_getChar_3b067_57 : decode cJ2_getChar_3b067 57 = .ok (.ior, 1) := by decide +kernel
theorem dJ2_getChar_3b067_58 : decode cJ2_getChar_3b067 58 = .ok (.i2c, 1) := by decide +kernel
theorem dJ2_getChar_3b067_59 : decode cJ2_getChar_3b067 59 = .ok (.ireturn, 1) := by decide +kernel
theorem dJ2_length_9d52b_0 : decode cJ2_length_9d52b 0 = .ok (.aload_n 0, 1) := by decide +kernel
theorem dJ2_length_9d52b_1 : decode cJ2_length_9d52b 1 = .ok (.arraylength, 1) := by decide +kernel
theorem dJ2_length_9d52b_2 : decode cJ2_length_9d52b 2 = .ok (.iconst 1, 1) := by decide +kernel
theorem dJ2_length_9d52b_3 : decode cJ2_length_9d52b 3 = .ok (.ishr, 1) := by decide +kernel
theorem dJ2_length_9d52b_4 : decode cJ2_length_9d52b 4 = .ok (.ireturn, 1) := by decide +kernel
theorem dJ2_charAt_3b067_0 : decode cJ2_charAt_3b067 0 = .ok (.iload_n 1, 1) := by decide +kernel
theorem dJ2_charAt_3b067_1 : decode cJ2_charAt_3b067 1 = .ok (.aload_n 0, 1) := by decide +kernel
theorem dJ2_charAt_3b067_2 : decode cJ2_charAt_3b067 2 = .ok (.invokestatic 67, 3) := by decide +kernel
theorem dJ2_charAt_3b067_5 : decode cJ2_charAt_3b067 5 = .ok (.aload_n 0, 1) := by decide +kernel
theorem dJ2_charAt_3b067_6 : decode cJ2_charAt_3b067 6 = .ok (.iload_n 1, 1) := by decide +kernel
theorem dJ2_charAt_3b067_7 : decode cJ2_charAt_3b067 7 = .ok (.invokestatic 71, 3) := by decide +kernel
theorem dJ2_charAt_3b067_10 : decode cJ2_charAt_3b067 10 = .ok (.ireturn, 1) := by decide +kernel
theorem dJ2_checkIndex_2214a_0 : decode cJ2_checkIndex_2214a 0 = .ok (.iload_n 0, 1) := by decide +kernel
theorem dJ2_checkIndex_2214a_1 : decode cJ2_checkIndex_2214a 1 = .ok (.aload_n 1, 1) := by decide +kernel
theorem dJ2_checkIndex_2214a_2 : decode cJ2_checkIndex_2214a 2 = .ok (.invokestatic 48, 3) := by decide +kernel
theorem dJ2_checkIndex_2214a_5 : decode cJ2_checkIndex_2214a 5 = .ok (.invokestatic 414, 3) := by decide +kernel
theorem dJ2_checkIndex_2214a_8 : decode cJ2_checkIndex_2214a 8 = .ok (.return_, 1) := by decide +kernel
theorem dJ3_checkIndex_8e157_0 : decode cJ3_checkIndex_8e157 0 = .ok (.iload_n 0, 1) := by decide +kernel
theorem dJ3_checkIndex_8e157_1 : decode cJ3_checkIndex_8e157 1 = .ok (.ifCond .lt 8, 3) := by decide +kernel
theorem dJ3_checkIndex_8e157_4 : decode cJ3_checkIndex_8e157 4 = .ok (.iload_n 0, 1) := by decide +kernel
theorem dJ3_checkIndex_8e157_5 : decode cJ3_checkIndex_8e157 5 = .ok (.iload_n 1, 1) := by decide +kernel
theorem dJ3_checkIndex_8e157_6 : decode cJ3_checkIndex_8e157 6 = .ok (.if_icmp .lt 10, 3) := by decide +kernel
theorem dJ3_checkIndex_8e157_9 : decode cJ3_checkIndex_8e157 9 = .ok (.aload_n 2, 1) := by decide +kernel
theorem dJ3_checkIndex_8e157_10 : decode cJ3_checkIndex_8e157 10 = .ok (.iload_n 0, 1) := by decide +kernel
theorem dJ3_checkIndex_8e157_11 : decode cJ3_checkIndex_8e157 11 = .ok (.iload_n 1, 1) := by decide +kernel
theorem dJ3_checkIndex_8e157_12 : decode cJ3_checkIndex_8e157 12 = .ok (.invokestatic 95, 3) := by decide +kernel
theorem dJ3_checkIndex_8e157_15 : decode cJ3_checkIndex_8e157 15 = .ok (.athrow, 1) := by decide +kernel
theorem dJ3_checkIndex_8e157_16 : decode cJ3_checkIndex_8e157 16 = .ok (.iload_n 0, 1) := by decide +kernel
theorem dJ3_checkIndex_8e157_17 : decode cJ3_checkIndex_8e157 17 = .ok (.ireturn, 1) := by decide +kernel
