theorem dX0_init_0 : decode cX0_init 0 = .ok (.aload_n 0, 1) := by decide +kernel
theorem dX0_init_1 : decode cX0_init 1 = .ok (.invokespecial 1, 3) := by decide +kernel
theorem dX0_init_4 : decode cX0_init 4 = .ok (.aload_n 0, 1) := by decide +kernel
theorem dX0_init_5 : decode cX0_init 5 = .ok (.bipush 24, 2) := by decide +kernel
theorem dX0_init_7 : decode cX0_init 7 = .ok (.newarray .int, 2) := by decide +kernel
theorem dX0_init_9 : decode cX0_init 9 = .ok (.putfield 9, 3) := by decide +kernel
theorem dX0_init_12 : decode cX0_init 12 = .ok (.aload_n 0, 1) := by decide +kernel
theorem dX0_init_13 : decode cX0_init 13 = .ok (.bipush 24, 2) := by decide +kernel
theorem dX0_init_15 : decode cX0_init 15 = .ok (.newarray .int, 2) := by decide +kernel
theorem dX0_init_17 : decode cX0_init 17 = .ok (.putfield 13, 3) := by decide +kernel
theorem dX0_init_20 : decode cX0_init 20 = .ok (.aload_n 0, 1) := by decide +kernel
theorem dX0_init_21 : decode cX0_init 21 = .ok (.bipush 24, 2) := by decide +kernel
theorem dX0_init_23 : decode cX0_init 23 = .ok (.newarray .int, 2) := by decide +kernel
theorem dX0_init_25 : decode cX0_init 25 = .ok (.putfield 16, 3) := by decide +kernel
theorem dX0_init_28 : decode cX0_init 28 = .ok (.return_, 1) := by decide +kernel
theorem dX0_clear_0 : decode cX0_clear 0 = .ok (.aload_n 0, 1) := by decide +kernel
theorem dX0_clear_1 : decode cX0_clear 1 = .ok (.iconst 0, 1) := by decide +kernel
theorem dX0_clear_2 : decode cX0_clear 2 = .ok (.putfield 19, 3) := by decide +kernel
theorem dX0_clear_5 : decode cX0_clear 5 = .ok (.return_, 1) := by decide +kernel
theorem dX0_keep_0 : decode cX0_keep 0 = .ok (.aload_n 0, 1) := by decide +kernel
theorem dX0_keep_1 : decode cX0_keep 1 = .ok (.getfield 9, 3) := by decide +kernel
theorem dX0_keep_4 : decode cX0_keep 4 = .ok (.aload_n 0, 1) := by decide +kernel
theorem dX0_keep_5 : decode cX0_keep 5 = .ok (.getfield 23, 3) := by decide +kernel
theorem dX0_keep_8 : decode cX0_keep 8 = .ok (.iload_n 1, 1) := by decide +kernel
theorem dX0_keep_9 : decode cX0_keep 9 = .ok (.iastore, 1) := by decide +kernel
theorem dX0_keep_10 : decode cX0_keep 10 = .ok (.aload_n 0, 1) := by decide +kernel
theorem dX0_keep_11 : decode cX0_keep 11 = .ok (.getfield 13, 3) := by decide +kernel
theorem dX0_keep_14 : decode cX0_keep 14 = .ok (.aload_n 0, 1) := by decide +kernel
theorem dX0_keep_15 : decode cX0_keep 15 = .ok (.getfield 23, 3) := by decide +kernel
theorem dX0_keep_18 : decode cX0_keep 18 = .ok (.iload_n 2, 1) := by decide +kernel
theorem dX0_keep_19 : decode cX0_keep 19 = .ok (.iastore, 1) := by decide +kernel
theorem dX0_keep_20 : decode cX0_keep 20 = .ok (.aload_n 0, 1) := by decide +kernel
theorem dX0_keep_21 : decode cX0_keep 21 = .ok (.getfield 16, 3) := by decide +kernel
theorem dX0_keep_24 : decode cX0_keep 24 = .ok (.aload_n 0, 1) := by decide +kernel
theorem dX0_keep_25 : decode cX0_keep 25 = .ok (.getfield 23, 3) := by decide +kernel
theorem dX0_keep_28 : decode cX0_keep 28 = .ok (.iload_n 3, 1) := by decide +kernel
theorem dX0_keep_29 : decode cX0_keep 29 = .ok (.iastore, 1) := by decide +kernel
theorem dX0_keep_30 : decode cX0_keep 30 = .ok (.aload_n 0, 1) := by decide +kernel
theorem dX0_keep_31 : decode cX0_keep 31 = .ok (.aload_n 0, 1) := by decide +kernel
theorem dX0_keep_32 : decode cX0_keep 32 = .ok (.getfield 23, 3) := by decide +kernel
theorem dX0_keep_35 : decode cX0_keep 35 = .ok (.iconst 1, 1) := by decide +kernel
theorem dX0_keep_36 : decode cX0_keep 36 = .ok (.iadd, 1) := by decide +kernel
theorem dX0_keep_37 : decode cX0_keep 37 = .ok (.bipush 24, 2) := by decide +kernel
theorem dX0_keep_39 : decode cX0_keep 39 = .ok (.irem, 1) := by decide +kernel
theorem dX0_keep_40 : decode cX0_keep 40 = .ok (.putfield 23, 3) := by decide +kernel
theorem dX0_keep_43 : decode cX0_keep 43 = .ok (.aload_n 0, 1) := by decide +kernel
theorem dX0_keep_44 : decode cX0_keep 44 = .ok (.aload_n 0, 1) := by decide +kernel
theorem dX0_keep_45 : decode cX0_keep 45 = .ok (.getfield 19, 3) := by decide +kernel
theorem dX0_keep_48 : decode cX0_keep 48 = .ok (.iconst 1, 1) := by decide +kernel
theorem dX0_keep_49 : decode cX0_keep 49 = .ok (.iadd, 1) := by decide +kernel
theorem dX0_keep_50 : decode cX0_keep 50 = .ok (.bipush 24, 2) := by decide +kernel
theorem dX0_keep_52 : decode cX0_keep 52 = .ok (.invokestatic 26, 3) := by decide +kernel
theorem dX0_keep_55 : decode cX0_keep 55 = .ok (.putfield 19, 3) := by decide +kernel
theorem dX0_keep_58 : decode cX0_keep 58 = .ok (.return_, 1) := by decide +kernel
theorem dX0_takeBack_0 : decode cX0_takeBack 0 = .ok (.aload_n 0, 1) := by decide +kernel
theorem dX0_takeBack_1 : decode cX0_takeBack 1 = .ok (.aload_n 0, 1) := by decide +kernel
theorem dX0_takeBack_2 : decode cX0_takeBack 2 = .ok (.getfield 23, 3) := by decide +kernel
theorem dX0_takeBack_5 : decode cX0_takeBack 5 = .ok (.bipush 24, 2) := by decide +kernel
theorem dX0_takeBack_7 : decode cX0_takeBack 7 = .ok (.iadd, 1) := by decide +kernel
theorem dX0_takeBack_8 : decode cX0_takeBack 8 = .ok (.iconst 1, 1) := by decide +kernel
theorem dX0_takeBack_9 : decode cX0_takeBack 9 = .ok (.isub, 1) := by decide +kernel
theorem dX0_takeBack_10 : decode cX0_takeBack 10 = .ok (.bipush 24, 2) := by decide +kernel
theorem dX0_takeBack_12 : decode cX0_takeBack 12 = .ok (.irem, 1) := by decide +kernel
theorem dX0_takeBack_13 : decode cX0_takeBack 13 = .ok (.putfield 23, 3) := by decide +kernel
theorem dX0_takeBack_16 : decode cX0_takeBack 16 = .ok (.aload_n 0, 1) := by decide +kernel
theorem dX0_takeBack_17 : decode cX0_takeBack 17 = .ok (.dup, 1) := by decide +kernel
theorem dX0_takeBack_18 : decode cX0_takeBack 18 = .ok (.getfield 19, 3) := by decide +kernel
theorem dX0_takeBack_21 : decode cX0_takeBack 21 = .ok (.iconst 1, 1) := by decide +kernel
theorem dX0_takeBack_22 : decode cX0_takeBack 22 = .ok (.isub, 1) := by decide +kernel
theorem dX0_takeBack_23 : decode cX0_takeBack 23 = .ok (.putfield 19, 3) := by decide +kernel
theorem dX0_takeBack_26 : decode cX0_takeBack 26 = .ok (.aload_n 0, 1) := by decide +kernel
theorem dX0_takeBack_27 : decode cX0_takeBack 27 = .ok (.getfield 9, 3) := by decide +kernel
theorem dX0_takeBack_30 : decode cX0_takeBack 30 = .ok (.aload_n 0, 1) := by decide +kernel
theorem dX0_takeBack_31 : decode cX0_takeBack 31 = .ok (.getfield 23, 3) := by decide +kernel
theorem dX0_takeBack_34 : decode cX0_takeBack 34 = .ok (.iaload, 1) := by decide +kernel
theorem dX0_takeBack_35 : decode cX0_takeBack 35 = .ok (.iconst 2, 1) := by decide +kernel
theorem dX0_takeBack_36 : decode cX0_takeBack 36 = .ok (.if_icmp .ne 27, 3) := by decide +kernel
theorem dX0_takeBack_39 : decode cX0_takeBack 39 = .ok (.aload_n 1, 1) := by decide +kernel
theorem dX0_takeBack_40 : decode cX0_takeBack 40 = .ok (.getfield 32, 3) := by decide +kernel
theorem dX0_takeBack_43 : decode cX0_takeBack 43 = .ok (.aload_n 0, 1) := by decide +kernel
theorem dX0_takeBack_44 : decode cX0_takeBack 44 = .ok (.getfield 13, 3) := by decide +kernel
theorem dX0_takeBack_47 : decode cX0_takeBack 47 = .ok (.aload_n 0, 1) := by decide +kernel
theorem dX0_takeBack_48 : decode cX0_takeBack 48 = .ok (.getfield 23, 3) := by decide +kernel
theorem dX0_takeBack_51 : decode cX0_takeBack 51 = .ok (.iaload, 1) := by decide +kernel
theorem dX0_takeBack_52 : decode cX0_takeBack 52 = .ok (.aload_n 0, 1) := by decide +kernel
theorem dX0_takeBack_53 : decode cX0_takeBack 53 = .ok (.getfield 16, 3) := by decide +kernel
theorem dX0_takeBack_56 : decode cX0_takeBack 56 = .ok (.aload_n 0, 1) := by decide +kernel
theorem dX0_takeBack_57 : decode cX0_takeBack 57 = .ok (.getfield 23, 3) := by decide +kernel
theorem dX0_takeBack_60 : decode cX0_takeBack 60 = .ok (.iaload, 1) := by decide +kernel
theorem dX0_takeBack_61 : decode cX0_takeBack 61 = .ok (.iastore, 1) := by decide +kernel
theorem dX0_takeBack_62 : decode cX0_takeBack 62 = .ok (.return_, 1) := by decide +kernel
theorem dX0_takeBack_63 : decode cX0_takeBack 63 = .ok (.aload_n 1, 1) := by decide +kernel
theorem dX0_takeBack_64 : decode cX0_takeBack 64 = .ok (.aload_n 0, 1) := by decide +kernel
theorem dX0_takeBack_65 : decode cX0_takeBack 65 = .ok (.getfield 16, 3) := by decide +kernel
theorem dX0_takeBack_68 : decode cX0_takeBack 68 = .ok (.aload_n 0, 1) := by decide +kernel
theorem dX0_takeBack_69 : decode cX0_takeBack 69 = .ok (.getfield 23, 3) := by decide +kernel
theorem dX0_takeBack_72 : decode cX0_takeBack 72 = .ok (.iaload, 1) := by decide +kernel
theorem dX0_takeBack_73 : decode cX0_takeBack 73 = .ok (.putfield 37, 3) := by decide +kernel
theorem dX0_takeBack_76 : decode cX0_takeBack 76 = .ok (.aload_n 0, 1) := by decide +kernel
theorem dX0_takeBack_77 : decode cX0_takeBack 77 = .ok (.getfield 9, 3) := by decide +kernel
theorem dX0_takeBack_80 : decode cX0_takeBack 80 = .ok (.aload_n 0, 1) := by decide +kernel
theorem dX0_takeBack_81 : decode cX0_takeBack 81 = .ok (.getfield 23, 3) := by decide +kernel
theorem dX0_takeBack_84 : decode cX0_takeBack 84 = .ok (.iaload, 1) := by decide +kernel
theorem dX0_takeBack_85 : decode cX0_takeBack 85 = .ok (.ifCond .ne 13, 3) := by decide +kernel
theorem dX0_takeBack_88 : decode cX0_takeBack 88 = .ok (.aload_n 1, 1) := by decide +kernel
theorem dX0_takeBack_89 : decode cX0_takeBack 89 = .ok (.dup, 1) := by decide +kernel
theorem dX0_takeBack_90 : decode cX0_takeBack 90 = .ok (.getfield 40, 3) := by decide +kernel
theorem dX0_takeBack_93 : decode cX0_takeBack 93 = .ok (.iconst 1, 1) := by decide +kernel
theorem dX0_takeBack_94 : decode cX0_takeBack 94 = .ok (.isub, 1) := by decide +kernel
theorem dX0_takeBack_95 : decode cX0_takeBack 95 = .ok (.putfield 40, 3) := by decide +kernel
theorem dX0_takeBack_98 : decode cX0_takeBack 98 = .ok (.return_, 1) := by decide +kernel
theorem dX1_init_0 : decode cX1_init 0 = .ok (.aload_n 0, 1) := by decide +kernel
theorem dX1_init_1 : decode cX1_init 1 = .ok (.invokespecial 3, 3) := by decide +kernel
theorem dX1_init_4 : decode cX1_init 4 = .ok (.aload_n 0, 1) := by decide +kernel
theorem dX1_init_5 : decode cX1_init 5 = .ok (.bipush 16, 2) := by decide +kernel
theorem dX1_init_7 : decode cX1_init 7 = .ok (.newarray .int, 2) := by decide +kernel
theorem dX1_init_9 : decode cX1_init 9 = .ok (.putfield 11, 3) := by decide +kernel
theorem dX1_init_12 : decode cX1_init 12 = .ok (.return_, 1) := by decide +kernel
theorem dX1_isOfKind_0 : decode cX1_isOfKind 0 = .ok (.iload_n 1, 1) := by decide +kernel
theorem dX1_isOfKind_1 : decode cX1_isOfKind 1 = .ok (.ifCond .eq 8, 3) := by decide +kernel
theorem dX1_isOfKind_4 : decode cX1_isOfKind 4 = .ok (.iload_n 0, 1) := by decide +kernel
theorem dX1_isOfKind_5 : decode cX1_isOfKind 5 = .ok (.iload_n 1, 1) := by decide +kernel
theorem dX1_isOfKind_6 : decode cX1_isOfKind 6 = .ok (.if_icmp .ne 5, 3) := by decide +kernel
theorem dX1_isOfKind_9 : decode cX1_isOfKind 9 = .ok (.iconst 1, 1) := by decide +kernel
theorem dX1_isOfKind_10 : decode cX1_isOfKind 10 = .ok (.ireturn, 1) := by decide +kernel
theorem dX1_isOfKind_11 : decode cX1_isOfKind 11 = .ok (.iload_n 0, 1) := by decide +kernel
theorem dX1_isOfKind_12 : decode cX1_isOfKind 12 = .ok (.ifCond .lt 21, 3) := by decide +kernel
theorem dX1_isOfKind_15 : decode cX1_isOfKind 15 = .ok (.iload_n 0, 1) := by decide +kernel
theorem dX1_isOfKind_16 : decode cX1_isOfKind 16 = .ok (.iconst 5, 1) := by decide +kernel
theorem dX1_isOfKind_17 : decode cX1_isOfKind 17 = .ok (.if_icmp .gt 16, 3) := by decide +kernel
theorem dX1_isOfKind_20 : decode cX1_isOfKind 20 = .ok (.getstatic 15, 3) := by decide +kernel
theorem dX1_isOfKind_23 : decode cX1_isOfKind 23 = .ok (.iload_n 0, 1) := by decide +kernel
theorem dX1_isOfKind_24 : decode cX1_isOfKind 24 = .ok (.iaload, 1) := by decide +kernel
theorem dX1_isOfKind_25 : decode cX1_isOfKind 25 = .ok (.iload_n 1, 1) := by decide +kernel
theorem dX1_isOfKind_26 : decode cX1_isOfKind 26 = .ok (.if_icmp .ne 7, 3) := by decide +kernel
theorem dX1_isOfKind_29 : decode cX1_isOfKind 29 = .ok (.iconst 1, 1) := by decide +kernel
theorem dX1_isOfKind_30 : decode cX1_isOfKind 30 = .ok (.goto 4, 3) := by decide +kernel
theorem dX1_isOfKind_33 : decode cX1_isOfKind 33 = .ok (.iconst 0, 1) := by decide +kernel
theorem dX1_isOfKind_34 : decode cX1_isOfKind 34 = .ok (.ireturn, 1) := by decide +kernel
theorem dX1_begin_0 : decode cX1_begin 0 = .ok (.aload_n 0, 1) := by decide +kernel
theorem dX1_begin_1 : decode cX1_begin 1 = .ok (.iload_n 1, 1) := by decide +kernel
theorem dX1_begin_2 : decode cX1_begin 2 = .ok (.putfield 18, 3) := by decide +kernel
theorem dX1_begin_5 : decode cX1_begin 5 = .ok (.aload_n 0, 1) := by decide +kernel
theorem dX1_begin_6 : decode cX1_begin 6 = .ok (.iload_n 2, 1) := by decide +kernel
theorem dX1_begin_7 : decode cX1_begin 7 = .ok (.putfield 22, 3) := by decide +kernel
theorem dX1_begin_10 : decode cX1_begin 10 = .ok (.aload_n 0, 1) := by decide +kernel
theorem dX1_begin_11 : decode cX1_begin 11 = .ok (.iload_n 3, 1) := by decide +kernel
theorem dX1_begin_12 : decode cX1_begin 12 = .ok (.putfield 25, 3) := by decide +kernel
theorem dX1_begin_15 : decode cX1_begin 15 = .ok (.aload_n 0, 1) := by decide +kernel
theorem dX1_begin_16 : decode cX1_begin 16 = .ok (.iload 4, 2) := by decide +kernel
theorem dX1_begin_18 : decode cX1_begin 18 = .ok (.putfield 28, 3) := by decide +kernel
theorem dX1_begin_21 : decode cX1_begin 21 = .ok (.aload_n 0, 1) := by decide +kernel
theorem dX1_begin_22 : decode cX1_begin 22 = .ok (.iconst 0, 1) := by decide +kernel
theorem dX1_begin_23 : decode cX1_begin 23 = .ok (.putfield 31, 3) := by decide +kernel
theorem dX1_begin_26 : decode cX1_begin 26 = .ok (.return_, 1) := by decide +kernel
theorem dX1_sizeOfOne_0 : decode cX1_sizeOfOne 0 = .ok (.aload_n 0, 1) := by decide +kernel
theorem dX1_sizeOfOne_1 : decode cX1_sizeOfOne 1 = .ok (.getfield 22, 3) := by decide +kernel
theorem dX1_sizeOfOne_4 : decode cX1_sizeOfOne 4 = .ok (.tableswitch 49 2 5 #[32, 49, 44, 44], 32) := by decide +kernel
theorem dX1_sizeOfOne_36 : decode cX1_sizeOfOne 36 = .ok (.aload_n 0, 1) := by decide +kernel
theorem dX1_sizeOfOne_37 : decode cX1_sizeOfOne 37 = .ok (.bipush 12, 2) := by decide +kernel
theorem dX1_sizeOfOne_39 : decode cX1_sizeOfOne 39 = .ok (.invokevirtual 34, 3) := by decide +kernel
theorem dX1_sizeOfOne_42 : decode cX1_sizeOfOne 42 = .ok (.aload_n 0, 1) := by decide +kernel
theorem dX1_sizeOfOne_43 : decode cX1_sizeOfOne 43 = .ok (.invokevirtual 38, 3) := by decide +kernel
theorem dX1_sizeOfOne_46 : decode cX1_sizeOfOne 46 = .ok (.ineg, 1) := by decide +kernel
theorem dX1_sizeOfOne_47 : decode cX1_sizeOfOne 47 = .ok (.ireturn, 1) := by decide +kernel
theorem dX1_sizeOfOne_48 : decode cX1_sizeOfOne 48 = .ok (.aload_n 0, 1) := by decide +kernel
theorem dX1_sizeOfOne_49 : decode cX1_sizeOfOne 49 = .ok (.invokevirtual 42, 3) := by decide +kernel
theorem dX1_sizeOfOne_52 : decode cX1_sizeOfOne 52 = .ok (.ireturn, 1) := by decide +kernel
theorem dX1_sizeOfOne_53 : decode cX1_sizeOfOne 53 = .ok (.aload_n 0, 1) := by decide +kernel
theorem dX1_sizeOfOne_54 : decode cX1_sizeOfOne 54 = .ok (.invokevirtual 38, 3) := by decide +kernel
theorem dX1_sizeOfOne_57 : decode cX1_sizeOfOne 57 = .ok (.ireturn, 1) := by decide +kernel
theorem dX1_markOfOne_0 : decode cX1_markOfOne 0 = .ok (.aload_n 0, 1) := by decide +kernel
theorem dX1_markOfOne_1 : decode cX1_markOfOne 1 = .ok (.getfield 22, 3) := by decide +kernel
theorem dX1_markOfOne_4 : decode cX1_markOfOne 4 = .ok (.iconst 4, 1) := by decide +kernel
theorem dX1_markOfOne_5 : decode cX1_markOfOne 5 = .ok (.invokestatic 45, 3) := by decide +kernel
theorem dX1_markOfOne_8 : decode cX1_markOfOne 8 = .ok (.ifCond .eq 10, 3) := by decide +kernel
theorem dX1_markOfOne_11 : decode cX1_markOfOne 11 = .ok (.aload_n 0, 1) := by decide +kernel
theorem dX1_markOfOne_12 : decode cX1_markOfOne 12 = .ok (.invokevirtual 49, 3) := by decide +kernel
theorem dX1_markOfOne_15 : decode cX1_markOfOne 15 = .ok (.goto 7, 3) := by decide +kernel
theorem dX1_markOfOne_18 : decode cX1_markOfOne 18 = .ok (.aload_n 0, 1) := by decide +kernel
theorem dX1_markOfOne_19 : decode cX1_markOfOne 19 = .ok (.invokevirtual 52, 3) := by decide +kernel
theorem dX1_markOfOne_22 : decode cX1_markOfOne 22 = .ok (.ireturn, 1) := by decide +kernel
theorem dX1_sizeOfCarrier_0 : decode cX1_sizeOfCarrier 0 = .ok (.aload_n 0, 1) := by decide +kernel
theorem dX1_sizeOfCarrier_1 : decode cX1_sizeOfCarrier 1 = .ok (.getfield 22, 3) := by decide +kernel
theorem dX1_sizeOfCarrier_4 : decode cX1_sizeOfCarrier 4 = .ok (.iconst 5, 1) := by decide +kernel
theorem dX1_sizeOfCarrier_5 : decode cX1_sizeOfCarrier 5 = .ok (.if_icmp .ne 16, 3) := by decide +kernel
theorem dX1_sizeOfCarrier_8 : decode cX1_sizeOfCarrier 8 = .ok (.aload_n 0, 1) := by decide +kernel
theorem dX1_sizeOfCarrier_9 : decode cX1_sizeOfCarrier 9 = .ok (.bipush 14, 2) := by decide +kernel
theorem dX1_sizeOfCarrier_11 : decode cX1_sizeOfCarrier 11 = .ok (.invokevirtual 34, 3) := by decide +kernel
theorem dX1_sizeOfCarrier_14 : decode cX1_sizeOfCarrier 14 = .ok (.iconst 2, 1) := by decide +kernel
theorem dX1_sizeOfCarrier_15 : decode cX1_sizeOfCarrier 15 = .ok (.aload_n 0, 1) := by decide +kernel
theorem dX1_sizeOfCarrier_16 : decode cX1_sizeOfCarrier 16 = .ok (.invokevirtual 55, 3) := by decide +kernel
theorem dX1_sizeOfCarrier_19 : decode cX1_sizeOfCarrier 19 = .ok (.imul, 1) := by decide +kernel
theorem dX1_sizeOfCarrier_20 : decode cX1_sizeOfCarrier 20 = .ok (.ireturn, 1) := by decide +kernel
theorem dX1_sizeOfCarrier_21 : decode cX1_sizeOfCarrier 21 = .ok (.aload_n 0, 1) := by decide +kernel
theorem dX1_sizeOfCarrier_22 : decode cX1_sizeOfCarrier 22 = .ok (.invokevirtual 55, 3) := by decide +kernel
theorem dX1_sizeOfCarrier_25 : decode cX1_sizeOfCarrier 25 = .ok (.ireturn, 1) := by decide +kernel
theorem dX1_markOfPlayer_0 : decode cX1_markOfPlayer 0 = .ok (.aload_n 0, 1) := by decide +kernel
theorem dX1_markOfPlayer_1 : decode cX1_markOfPlayer 1 = .ok (.getfield 22, 3) := by decide +kernel
theorem dX1_markOfPlayer_4 : decode cX1_markOfPlayer 4 = .ok (.lookupswitch 56 #[(2, 28), (3, 41)], 28) := by decide +kernel
theorem dX1_markOfPlayer_32 : decode cX1_markOfPlayer 32 = .ok (.aload_n 0, 1) := by decide +kernel
theorem dX1_markOfPlayer_33 : decode cX1_markOfPlayer 33 = .ok (.bipush 24, 2) := by decide +kernel
theorem dX1_markOfPlayer_35 : decode cX1_markOfPlayer 35 = .ok (.invokevirtual 34, 3) := by decide +kernel
theorem dX1_markOfPlayer_38 : decode cX1_markOfPlayer 38 = .ok (.iconst 2, 1) := by decide +kernel
theorem dX1_markOfPlayer_39 : decode cX1_markOfPlayer 39 = .ok (.aload_n 0, 1) := by decide +kernel
theorem dX1_markOfPlayer_40 : decode cX1_markOfPlayer 40 = .ok (.invokevirtual 58, 3) := by decide +kernel
theorem dX1_markOfPlayer_43 : decode cX1_markOfPlayer 43 = .ok (.imul, 1) := by decide +kernel
theorem dX1_markOfPlayer_44 : decode cX1_markOfPlayer 44 = .ok (.ireturn, 1) := by decide +kernel
theorem dX1_markOfPlayer_45 : decode cX1_markOfPlayer 45 = .ok (.aload_n 0, 1) := by decide +kernel
theorem dX1_markOfPlayer_46 : decode cX1_markOfPlayer 46 = .ok (.bipush 22, 2) := by decide +kernel
theorem dX1_markOfPlayer_48 : decode cX1_markOfPlayer 48 = .ok (.invokevirtual 34, 3) := by decide +kernel
theorem dX1_markOfPlayer_51 : decode cX1_markOfPlayer 51 = .ok (.aload_n 0, 1) := by decide +kernel
theorem dX1_markOfPlayer_52 : decode cX1_markOfPlayer 52 = .ok (.invokevirtual 58, 3) := by decide +kernel
theorem dX1_markOfPlayer_55 : decode cX1_markOfPlayer 55 = .ok (.sipush 1000, 3) := by decide +kernel
theorem dX1_markOfPlayer_58 : decode cX1_markOfPlayer 58 = .ok (.isub, 1) := by decide +kernel
theorem dX1_markOfPlayer_59 : decode cX1_markOfPlayer 59 = .ok (.ireturn, 1) := by decide +kernel
theorem dX1_markOfPlayer_60 : decode cX1_markOfPlayer 60 = .ok (.aload_n 0, 1) := by decide +kernel
theorem dX1_markOfPlayer_61 : decode cX1_markOfPlayer 61 = .ok (.invokevirtual 58, 3) := by decide +kernel
theorem dX1_markOfPlayer_64 : decode cX1_markOfPlayer 64 = .ok (.ireturn, 1) := by decide +kernel
theorem dX1_body10_0 : decode cX1_body10 0 = .ok (.aload_n 0, 1) := by decide +kernel
theorem dX1_body10_1 : decode cX1_body10 1 = .ok (.bipush 10, 2) := by decide +kernel
theorem dX1_body10_3 : decode cX1_body10 3 = .ok (.invokevirtual 34, 3) := by decide +kernel
theorem dX1_body10_6 : decode cX1_body10 6 = .ok (.aload_n 0, 1) := by decide +kernel
theorem dX1_body10_7 : decode cX1_body10 7 = .ok (.getfield 28, 3) := by decide +kernel
theorem dX1_body10_10 : decode cX1_body10 10 = .ok (.ireturn, 1) := by decide +kernel
theorem dX1_body11_0 : decode cX1_body11 0 = .ok (.aload_n 0, 1) := by decide +kernel
theorem dX1_body11_1 : decode cX1_body11 1 = .ok (.bipush 11, 2) := by decide +kernel
theorem dX1_body11_3 : decode cX1_body11 3 = .ok (.invokevirtual 34, 3) := by decide +kernel
theorem dX1_body11_6 : decode cX1_body11 6 = .ok (.aload_n 0, 1) := by decide +kernel
theorem dX1_body11_7 : decode cX1_body11 7 = .ok (.invokevirtual 61, 3) := by decide +kernel
theorem dX1_body11_10 : decode cX1_body11 10 = .ok (.istore_n 1, 1) := by decide +kernel
theorem dX1_body11_11 : decode cX1_body11 11 = .ok (.iload_n 1, 1) := by decide +kernel
theorem dX1_body11_12 : decode cX1_body11 12 = .ok (.aload_n 0, 1) := by decide +kernel
theorem dX1_body11_13 : decode cX1_body11 13 = .ok (.invokevirtual 52, 3) := by decide +kernel
theorem dX1_body11_16 : decode cX1_body11 16 = .ok (.iadd, 1) := by decide +kernel
theorem dX1_body11_17 : decode cX1_body11 17 = .ok (.ireturn, 1) := by decide +kernel
theorem dX1_body13_0 : decode cX1_body13 0 = .ok (.aload_n 0, 1) := by decide +kernel
theorem dX1_body13_1 : decode cX1_body13 1 = .ok (.bipush 13, 2) := by decide +kernel
theorem dX1_body13_3 : decode cX1_body13 3 = .ok (.invokevirtual 34, 3) := by decide +kernel
theorem dX1_body13_6 : decode cX1_body13 6 = .ok (.aload_n 0, 1) := by decide +kernel
theorem dX1_body13_7 : decode cX1_body13 7 = .ok (.invokevirtual 61, 3) := by decide +kernel
theorem dX1_body13_10 : decode cX1_body13 10 = .ok (.bipush 100, 2) := by decide +kernel
theorem dX1_body13_12 : decode cX1_body13 12 = .ok (.isub, 1) := by decide +kernel
theorem dX1_body13_13 : decode cX1_body13 13 = .ok (.ireturn, 1) := by decide +kernel
theorem dX1_body20_0 : decode cX1_body20 0 = .ok (.aload_n 0, 1) := by decide +kernel
theorem dX1_body20_1 : decode cX1_body20 1 = .ok (.bipush 20, 2) := by decide +kernel
theorem dX1_body20_3 : decode cX1_body20 3 = .ok (.invokevirtual 34, 3) := by decide +kernel
theorem dX1_body20_6 : decode cX1_body20 6 = .ok (.aload_n 0, 1) := by decide +kernel
theorem dX1_body20_7 : decode cX1_body20 7 = .ok (.getfield 18, 3) := by decide +kernel
theorem dX1_body20_10 : decode cX1_body20 10 = .ok (.ireturn, 1) := by decide +kernel
theorem dX1_body21_0 : decode cX1_body21 0 = .ok (.aload_n 0, 1) := by decide +kernel
theorem dX1_body21_1 : decode cX1_body21 1 = .ok (.bipush 21, 2) := by decide +kernel
theorem dX1_body21_3 : decode cX1_body21 3 = .ok (.invokevirtual 34, 3) := by decide +kernel
theorem dX1_body21_6 : decode cX1_body21 6 = .ok (.aload_n 0, 1) := by decide +kernel
theorem dX1_body21_7 : decode cX1_body21 7 = .ok (.invokevirtual 64, 3) := by decide +kernel
theorem dX1_body21_10 : decode cX1_body21 10 = .ok (.aload_n 0, 1) := by decide +kernel
theorem dX1_body21_11 : decode cX1_body21 11 = .ok (.getfield 25, 3) := by decide +kernel
theorem dX1_body21_14 : decode cX1_body21 14 = .ok (.iadd, 1) := by decide +kernel
theorem dX1_body21_15 : decode cX1_body21 15 = .ok (.ireturn, 1) := by decide +kernel
theorem dX1_body23_0 : decode cX1_body23 0 = .ok (.aload_n 0, 1) := by decide +kernel
theorem dX1_body23_1 : decode cX1_body23 1 = .ok (.bipush 23, 2) := by decide +kernel
theorem dX1_body23_3 : decode cX1_body23 3 = .ok (.invokevirtual 34, 3) := by decide +kernel
theorem dX1_body23_6 : decode cX1_body23 6 = .ok (.aload_n 0, 1) := by decide +kernel
theorem dX1_body23_7 : decode cX1_body23 7 = .ok (.invokevirtual 64, 3) := by decide +kernel
theorem dX1_body23_10 : decode cX1_body23 10 = .ok (.istore_n 1, 1) := by decide +kernel
theorem dX1_body23_11 : decode cX1_body23 11 = .ok (.iload_n 1, 1) := by decide +kernel
theorem dX1_body23_12 : decode cX1_body23 12 = .ok (.aload_n 0, 1) := by decide +kernel
theorem dX1_body23_13 : decode cX1_body23 13 = .ok (.invokevirtual 42, 3) := by decide +kernel
theorem dX1_body23_16 : decode cX1_body23 16 = .ok (.isub, 1) := by decide +kernel
theorem dX1_body23_17 : decode cX1_body23 17 = .ok (.ireturn, 1) := by decide +kernel
theorem dX1_leave_0 : decode cX1_leave 0 = .ok (.aload_n 0, 1) := by decide +kernel
theorem dX1_leave_1 : decode cX1_leave 1 = .ok (.getfield 31, 3) := by decide +kernel
theorem dX1_leave_4 : decode cX1_leave 4 = .ok (.bipush 16, 2) := by decide +kernel
theorem dX1_leave_6 : decode cX1_leave 6 = .ok (.if_icmp .ge 23, 3) := by decide +kernel
theorem dX1_leave_9 : decode cX1_leave 9 = .ok (.aload_n 0, 1) := by decide +kernel
theorem dX1_leave_10 : decode cX1_leave 10 = .ok (.getfield 11, 3) := by decide +kernel
theorem dX1_leave_13 : decode cX1_leave 13 = .ok (.aload_n 0, 1) := by decide +kernel
theorem dX1_leave_14 : decode cX1_leave 14 = .ok (.getfield 31, 3) := by decide +kernel
theorem dX1_leave_17 : decode cX1_leave 17 = .ok (.iload_n 1, 1) := by decide +kernel
theorem dX1_leave_18 : decode cX1_leave 18 = .ok (.iastore, 1) := by decide +kernel
theorem dX1_leave_19 : decode cX1_leave 19 = .ok (.aload_n 0, 1) := by decide +kernel
theorem dX1_leave_20 : decode cX1_leave 20 = .ok (.dup, 1) := by decide +kernel
theorem dX1_leave_21 : decode cX1_leave 21 = .ok (.getfield 31, 3) := by decide +kernel
theorem dX1_leave_24 : decode cX1_leave 24 = .ok (.iconst 1, 1) := by decide +kernel
theorem dX1_leave_25 : decode cX1_leave 25 = .ok (.iadd, 1) := by decide +kernel
theorem dX1_leave_26 : decode cX1_leave 26 = .ok (.putfield 31, 3) := by decide +kernel
theorem dX1_leave_29 : decode cX1_leave 29 = .ok (.return_, 1) := by decide +kernel
theorem dX2_init_0 : decode cX2_init 0 = .ok (.aload_n 0, 1) := by decide +kernel
theorem dX2_init_1 : decode cX2_init 1 = .ok (.invokespecial 3, 3) := by decide +kernel
theorem dX2_init_4 : decode cX2_init 4 = .ok (.aload_n 0, 1) := by decide +kernel
theorem dX2_init_5 : decode cX2_init 5 = .ok (.iconst 5, 1) := by decide +kernel
theorem dX2_init_6 : decode cX2_init 6 = .ok (.newarray .int, 2) := by decide +kernel
theorem dX2_init_8 : decode cX2_init 8 = .ok (.putfield 11, 3) := by decide +kernel
theorem dX2_init_11 : decode cX2_init 11 = .ok (.aload_n 0, 1) := by decide +kernel
theorem dX2_init_12 : decode cX2_init 12 = .ok (.iconst 5, 1) := by decide +kernel
theorem dX2_init_13 : decode cX2_init 13 = .ok (.newarray .int, 2) := by decide +kernel
theorem dX2_init_15 : decode cX2_init 15 = .ok (.putfield 17, 3) := by decide +kernel
theorem dX2_init_18 : decode cX2_init 18 = .ok (.aload_n 0, 1) := by decide +kernel
theorem dX2_init_19 : decode cX2_init 19 = .ok (.iconst 4, 1) := by decide +kernel
theorem dX2_init_20 : decode cX2_init 20 = .ok (.newarray .int, 2) := by decide +kernel
theorem dX2_init_22 : decode cX2_init 22 = .ok (.putfield 20, 3) := by decide +kernel
theorem dX2_init_25 : decode cX2_init 25 = .ok (.aload_n 0, 1) := by decide +kernel
theorem dX2_init_26 : decode cX2_init 26 = .ok (.aload_n 1, 1) := by decide +kernel
theorem dX2_init_27 : decode cX2_init 27 = .ok (.putfield 23, 3) := by decide +kernel
theorem dX2_init_30 : decode cX2_init 30 = .ok (.return_, 1) := by decide +kernel
theorem dX2_firstNightAt_0 : decode cX2_firstNightAt 0 = .ok (.iconst 0, 1) := by decide +kernel
theorem dX2_firstNightAt_1 : decode cX2_firstNightAt 1 = .ok (.istore_n 2, 1) := by decide +kernel
theorem dX2_firstNightAt_2 : decode cX2_firstNightAt 2 = .ok (.iload_n 2, 1) := by decide +kernel
theorem dX2_firstNightAt_3 : decode cX2_firstNightAt 3 = .ok (.bipush 60, 2) := by decide +kernel
theorem dX2_firstNightAt_5 : decode cX2_firstNightAt 5 = .ok (.if_icmp .gt 23, 3) := by decide +kernel
theorem dX2_firstNightAt_8 : decode cX2_firstNightAt 8 = .ok (.aload_n 0, 1) := by decide +kernel
theorem dX2_firstNightAt_9 : decode cX2_firstNightAt 9 = .ok (.getfield 23, 3) := by decide +kernel
theorem dX2_firstNightAt_12 : decode cX2_firstNightAt 12 = .ok (.iload_n 2, 1) := by decide +kernel
theorem dX2_firstNightAt_13 : decode cX2_firstNightAt 13 = .ok (.invokevirtual 27, 3) := by decide +kernel
theorem dX2_firstNightAt_16 : decode cX2_firstNightAt 16 = .ok (.iload_n 1, 1) := by decide +kernel
theorem dX2_firstNightAt_17 : decode cX2_firstNightAt 17 = .ok (.if_icmp .ne 5, 3) := by decide +kernel
theorem dX2_firstNightAt_20 : decode cX2_firstNightAt 20 = .ok (.iload_n 2, 1) := by decide +kernel
theorem dX2_firstNightAt_21 : decode cX2_firstNightAt 21 = .ok (.ireturn, 1) := by decide +kernel
theorem dX2_firstNightAt_22 : decode cX2_firstNightAt 22 = .ok (.iinc 2 1, 3) := by decide +kernel
theorem dX2_firstNightAt_25 : decode cX2_firstNightAt 25 = .ok (.goto (-23), 3) := by decide +kernel
theorem dX2_firstNightAt_28 : decode cX2_firstNightAt 28 = .ok (.ldc 31, 2) := by decide +kernel
theorem dX2_firstNightAt_30 : decode cX2_firstNightAt 30 = .ok (.ireturn, 1) := by decide +kernel
theorem dX2_nightsAt_0 : decode cX2_nightsAt 0 = .ok (.iconst 0, 1) := by decide +kernel
theorem dX2_nightsAt_1 : decode cX2_nightsAt 1 = .ok (.istore_n 3, 1) := by decide +kernel
theorem dX2_nightsAt_2 : decode cX2_nightsAt 2 = .ok (.iconst 0, 1) := by decide +kernel
theorem dX2_nightsAt_3 : decode cX2_nightsAt 3 = .ok (.istore 4, 2) := by decide +kernel
theorem dX2_nightsAt_5 : decode cX2_nightsAt 5 = .ok (.iload 4, 2) := by decide +kernel
theorem dX2_nightsAt_7 : decode cX2_nightsAt 7 = .ok (.iload_n 2, 1) := by decide +kernel
theorem dX2_nightsAt_8 : decode cX2_nightsAt 8 = .ok (.if_icmp .ge 29, 3) := by decide +kernel
theorem dX2_nightsAt_11 : decode cX2_nightsAt 11 = .ok (.aload_n 0, 1) := by decide +kernel
theorem dX2_nightsAt_12 : decode cX2_nightsAt 12 = .ok (.getfield 23, 3) := by decide +kernel
theorem dX2_nightsAt_15 : decode cX2_nightsAt 15 = .ok (.iload 4, 2) := by decide +kernel
theorem dX2_nightsAt_17 : decode cX2_nightsAt 17 = .ok (.invokevirtual 27, 3) := by decide +kernel
theorem dX2_nightsAt_20 : decode cX2_nightsAt 20 = .ok (.iload_n 1, 1) := by decide +kernel
theorem dX2_nightsAt_21 : decode cX2_nightsAt 21 = .ok (.if_icmp .ne 10, 3) := by decide +kernel
theorem dX2_nightsAt_24 : decode cX2_nightsAt 24 = .ok (.iload_n 3, 1) := by decide +kernel
theorem dX2_nightsAt_25 : decode cX2_nightsAt 25 = .ok (.iconst 1, 1) := by decide +kernel
theorem dX2_nightsAt_26 : decode cX2_nightsAt 26 = .ok (.iload 4, 2) := by decide +kernel
theorem dX2_nightsAt_28 : decode cX2_nightsAt 28 = .ok (.ishl, 1) := by decide +kernel
theorem dX2_nightsAt_29 : decode cX2_nightsAt 29 = .ok (.ior, 1) := by decide +kernel
theorem dX2_nightsAt_30 : decode cX2_nightsAt 30 = .ok (.istore_n 3, 1) := by decide +kernel
theorem dX2_nightsAt_31 : decode cX2_nightsAt 31 = .ok (.iinc 4 1, 3) := by decide +kernel
theorem dX2_nightsAt_34 : decode cX2_nightsAt 34 = .ok (.goto (-29), 3) := by decide +kernel
theorem dX2_nightsAt_37 : decode cX2_nightsAt 37 = .ok (.iload_n 3, 1) := by decide +kernel
theorem dX2_nightsAt_38 : decode cX2_nightsAt 38 = .ok (.ireturn, 1) := by decide +kernel
theorem dX2_shiftsBy_0 : decode cX2_shiftsBy 0 = .ok (.iconst 0, 1) := by decide +kernel
theorem dX2_shiftsBy_1 : decode cX2_shiftsBy 1 = .ok (.istore 5, 2) := by decide +kernel
theorem dX2_shiftsBy_3 : decode cX2_shiftsBy 3 = .ok (.iconst 0, 1) := by decide +kernel
theorem dX2_shiftsBy_4 : decode cX2_shiftsBy 4 = .ok (.istore 6, 2) := by decide +kernel
theorem dX2_shiftsBy_6 : decode cX2_shiftsBy 6 = .ok (.iload 6, 2) := by decide +kernel
theorem dX2_shiftsBy_8 : decode cX2_shiftsBy 8 = .ok (.aload_n 0, 1) := by decide +kernel
theorem dX2_shiftsBy_9 : decode cX2_shiftsBy 9 = .ok (.getfield 23, 3) := by decide +kernel
theorem dX2_shiftsBy_12 : decode cX2_shiftsBy 12 = .ok (.getfield 32, 3) := by decide +kernel
theorem dX2_shiftsBy_15 : decode cX2_shiftsBy 15 = .ok (.if_icmp .ge 32, 3) := by decide +kernel
theorem dX2_shiftsBy_18 : decode cX2_shiftsBy 18 = .ok (.aload_n 0, 1) := by decide +kernel
theorem dX2_shiftsBy_19 : decode cX2_shiftsBy 19 = .ok (.iload 6, 2) := by decide +kernel
theorem dX2_shiftsBy_21 : decode cX2_shiftsBy 21 = .ok (.aload_n 1, 1) := by decide +kernel
theorem dX2_shiftsBy_22 : decode cX2_shiftsBy 22 = .ok (.iload_n 2, 1) := by decide +kernel
theorem dX2_shiftsBy_23 : decode cX2_shiftsBy 23 = .ok (.iload_n 3, 1) := by decide +kernel
theorem dX2_shiftsBy_24 : decode cX2_shiftsBy 24 = .ok (.invokevirtual 36, 3) := by decide +kernel
theorem dX2_shiftsBy_27 : decode cX2_shiftsBy 27 = .ok (.iload 4, 2) := by decide +kernel
theorem dX2_shiftsBy_29 : decode cX2_shiftsBy 29 = .ok (.if_icmp .gt 12, 3) := by decide +kernel
theorem dX2_shiftsBy_32 : decode cX2_shiftsBy 32 = .ok (.iload 5, 2) := by decide +kernel
theorem dX2_shiftsBy_34 : decode cX2_shiftsBy 34 = .ok (.iconst 1, 1) := by decide +kernel
theorem dX2_shiftsBy_35 : decode cX2_shiftsBy 35 = .ok (.iload 6, 2) := by decide +kernel
theorem dX2_shiftsBy_37 : decode cX2_shiftsBy 37 = .ok (.ishl, 1) := by decide +kernel
theorem dX2_shiftsBy_38 : decode cX2_shiftsBy 38 = .ok (.ior, 1) := by decide +kernel
theorem dX2_shiftsBy_39 : decode cX2_shiftsBy 39 = .ok (.istore 5, 2) := by decide +kernel
theorem dX2_shiftsBy_41 : decode cX2_shiftsBy 41 = .ok (.iinc 6 1, 3) := by decide +kernel
theorem dX2_shiftsBy_44 : decode cX2_shiftsBy 44 = .ok (.goto (-38), 3) := by decide +kernel
theorem dX2_shiftsBy_47 : decode cX2_shiftsBy 47 = .ok (.iload 5, 2) := by decide +kernel
theorem dX2_shiftsBy_49 : decode cX2_shiftsBy 49 = .ok (.ireturn, 1) := by decide +kernel
theorem dX2_wrongsBy_0 : decode cX2_wrongsBy 0 = .ok (.iconst 0, 1) := by decide +kernel
theorem dX2_wrongsBy_1 : decode cX2_wrongsBy 1 = .ok (.istore 5, 2) := by decide +kernel
theorem dX2_wrongsBy_3 : decode cX2_wrongsBy 3 = .ok (.iconst 0, 1) := by decide +kernel
theorem dX2_wrongsBy_4 : decode cX2_wrongsBy 4 = .ok (.istore 6, 2) := by decide +kernel
theorem dX2_wrongsBy_6 : decode cX2_wrongsBy 6 = .ok (.iload 6, 2) := by decide +kernel
theorem dX2_wrongsBy_8 : decode cX2_wrongsBy 8 = .ok (.iload 4, 2) := by decide +kernel
theorem dX2_wrongsBy_10 : decode cX2_wrongsBy 10 = .ok (.if_icmp .ge 79, 3) := by decide +kernel
theorem dX2_wrongsBy_13 : decode cX2_wrongsBy 13 = .ok (.aload_n 2, 1) := by decide +kernel
theorem dX2_wrongsBy_14 : decode cX2_wrongsBy 14 = .ok (.iload_n 3, 1) := by decide +kernel
theorem dX2_wrongsBy_15 : decode cX2_wrongsBy 15 = .ok (.iconst 2, 1) := by decide +kernel
theorem dX2_wrongsBy_16 : decode cX2_wrongsBy 16 = .ok (.iload 6, 2) := by decide +kernel
theorem dX2_wrongsBy_18 : decode cX2_wrongsBy 18 = .ok (.imul, 1) := by decide +kernel
theorem dX2_wrongsBy_19 : decode cX2_wrongsBy 19 = .ok (.iadd, 1) := by decide +kernel
theorem dX2_wrongsBy_20 : decode cX2_wrongsBy 20 = .ok (.iaload, 1) := by decide +kernel
theorem dX2_wrongsBy_21 : decode cX2_wrongsBy 21 = .ok (.istore 7, 2) := by decide +kernel
theorem dX2_wrongsBy_23 : decode cX2_wrongsBy 23 = .ok (.aload_n 2, 1) := by decide +kernel
theorem dX2_wrongsBy_24 : decode cX2_wrongsBy 24 = .ok (.iload_n 3, 1) := by decide +kernel
theorem dX2_wrongsBy_25 : decode cX2_wrongsBy 25 = .ok (.iconst 2, 1) := by decide +kernel
theorem dX2_wrongsBy_26 : decode cX2_wrongsBy 26 = .ok (.iload 6, 2) := by decide +kernel
theorem dX2_wrongsBy_28 : decode cX2_wrongsBy 28 = .ok (.imul, 1) := by decide +kernel
theorem dX2_wrongsBy_29 : decode cX2_wrongsBy 29 = .ok (.iadd, 1) := by decide +kernel
theorem dX2_wrongsBy_30 : decode cX2_wrongsBy 30 = .ok (.iconst 1, 1) := by decide +kernel
theorem dX2_wrongsBy_31 : decode cX2_wrongsBy 31 = .ok (.iadd, 1) := by decide +kernel
theorem dX2_wrongsBy_32 : decode cX2_wrongsBy 32 = .ok (.iaload, 1) := by decide +kernel
theorem dX2_wrongsBy_33 : decode cX2_wrongsBy 33 = .ok (.istore 8, 2) := by decide +kernel
theorem dX2_wrongsBy_35 : decode cX2_wrongsBy 35 = .ok (.iload 7, 2) := by decide +kernel
theorem dX2_wrongsBy_37 : decode cX2_wrongsBy 37 = .ok (.ifCond .lt 19, 3) := by decide +kernel
theorem dX2_wrongsBy_40 : decode cX2_wrongsBy 40 = .ok (.iload 7, 2) := by decide +kernel
theorem dX2_wrongsBy_42 : decode cX2_wrongsBy 42 = .ok (.aload_n 0, 1) := by decide +kernel
theorem dX2_wrongsBy_43 : decode cX2_wrongsBy 43 = .ok (.getfield 23, 3) := by decide +kernel
theorem dX2_wrongsBy_46 : decode cX2_wrongsBy 46 = .ok (.getfield 32, 3) := by decide +kernel
theorem dX2_wrongsBy_49 : decode cX2_wrongsBy 49 = .ok (.if_icmp .ge 7, 3) := by decide +kernel
theorem dX2_wrongsBy_52 : decode cX2_wrongsBy 52 = .ok (.iconst 1, 1) := by decide +kernel
theorem dX2_wrongsBy_53 : decode cX2_wrongsBy 53 = .ok (.goto 4, 3) := by decide +kernel
theorem dX2_wrongsBy_56 : decode cX2_wrongsBy 56 = .ok (.iconst 0, 1) := by decide +kernel
theorem dX2_wrongsBy_57 : decode cX2_wrongsBy 57 = .ok (.istore 9, 2) := by decide +kernel
theorem dX2_wrongsBy_59 : decode cX2_wrongsBy 59 = .ok (.iload 9, 2) := by decide +kernel
theorem dX2_wrongsBy_61 : decode cX2_wrongsBy 61 = .ok (.ifCond .eq 19, 3) := by decide +kernel
theorem dX2_wrongsBy_64 : decode cX2_wrongsBy 64 = .ok (.aload_n 0, 1) := by decide +kernel
theorem dX2_wrongsBy_65 : decode cX2_wrongsBy 65 = .ok (.getfield 23, 3) := by decide +kernel
theorem dX2_wrongsBy_68 : decode cX2_wrongsBy 68 = .ok (.iload 7, 2) := by decide +kernel
theorem dX2_wrongsBy_70 : decode cX2_wrongsBy 70 = .ok (.iload_n 1, 1) := by decide +kernel
theorem dX2_wrongsBy_71 : decode cX2_wrongsBy 71 = .ok (.iadd, 1) := by decide +kernel
theorem dX2_wrongsBy_72 : decode cX2_wrongsBy 72 = .ok (.invokevirtual 40, 3) := by decide +kernel
theorem dX2_wrongsBy_75 : decode cX2_wrongsBy 75 = .ok (.iload 8, 2) := by decide +kernel
theorem dX2_wrongsBy_77 : decode cX2_wrongsBy 77 = .ok (.if_icmp .eq 6, 3) := by decide +kernel
theorem dX2_wrongsBy_80 : decode cX2_wrongsBy 80 = .ok (.iinc 5 1, 3) := by decide +kernel
theorem dX2_wrongsBy_83 : decode cX2_wrongsBy 83 = .ok (.iinc 6 1, 3) := by decide +kernel
theorem dX2_wrongsBy_86 : decode cX2_wrongsBy 86 = .ok (.goto (-80), 3) := by decide +kernel
theorem dX2_wrongsBy_89 : decode cX2_wrongsBy 89 = .ok (.iload 5, 2) := by decide +kernel
theorem dX2_wrongsBy_91 : decode cX2_wrongsBy 91 = .ok (.ireturn, 1) := by decide +kernel
theorem dX2_fewestTaught_0 : decode cX2_fewestTaught 0 = .ok (.iconst 0, 1) := by decide +kernel
theorem dX2_fewestTaught_1 : decode cX2_fewestTaught 1 = .ok (.istore_n 2, 1) := by decide +kernel
theorem dX2_fewestTaught_2 : decode cX2_fewestTaught 2 = .ok (.iload_n 2, 1) := by decide +kernel
theorem dX2_fewestTaught_3 : decode cX2_fewestTaught 3 = .ok (.aload_n 0, 1) := by decide +kernel
theorem dX2_fewestTaught_4 : decode cX2_fewestTaught 4 = .ok (.getfield 23, 3) := by decide +kernel
theorem dX2_fewestTaught_7 : decode cX2_fewestTaught 7 = .ok (.getfield 43, 3) := by decide +kernel
theorem dX2_fewestTaught_10 : decode cX2_fewestTaught 10 = .ok (.if_icmp .ge 66, 3) := by decide +kernel
theorem dX2_fewestTaught_13 : decode cX2_fewestTaught 13 = .ok (.aload_n 0, 1) := by decide +kernel
theorem dX2_fewestTaught_14 : decode cX2_fewestTaught 14 = .ok (.getfield 23, 3) := by decide +kernel
theorem dX2_fewestTaught_17 : decode cX2_fewestTaught 17 = .ok (.aload_n 0, 1) := by decide +kernel
theorem dX2_fewestTaught_18 : decode cX2_fewestTaught 18 = .ok (.getfield 23, 3) := by decide +kernel
theorem dX2_fewestTaught_21 : decode cX2_fewestTaught 21 = .ok (.getfield 46, 3) := by decide +kernel
theorem dX2_fewestTaught_24 : decode cX2_fewestTaught 24 = .ok (.iload_n 2, 1) := by decide +kernel
theorem dX2_fewestTaught_25 : decode cX2_fewestTaught 25 = .ok (.iaload, 1) := by decide +kernel
theorem dX2_fewestTaught_26 : decode cX2_fewestTaught 26 = .ok (.aload_n 0, 1) := by decide +kernel
theorem dX2_fewestTaught_27 : decode cX2_fewestTaught 27 = .ok (.getfield 23, 3) := by decide +kernel
theorem dX2_fewestTaught_30 : decode cX2_fewestTaught 30 = .ok (.getfield 49, 3) := by decide +kernel
theorem dX2_fewestTaught_33 : decode cX2_fewestTaught 33 = .ok (.invokevirtual 52, 3) := by decide +kernel
theorem dX2_fewestTaught_36 : decode cX2_fewestTaught 36 = .ok (.istore_n 3, 1) := by decide +kernel
theorem dX2_fewestTaught_37 : decode cX2_fewestTaught 37 = .ok (.aload_n 0, 1) := by decide +kernel
theorem dX2_fewestTaught_38 : decode cX2_fewestTaught 38 = .ok (.getfield 11, 3) := by decide +kernel
theorem dX2_fewestTaught_41 : decode cX2_fewestTaught 41 = .ok (.iload_n 2, 1) := by decide +kernel
theorem dX2_fewestTaught_42 : decode cX2_fewestTaught 42 = .ok (.aload_n 0, 1) := by decide +kernel
theorem dX2_fewestTaught_43 : decode cX2_fewestTaught 43 = .ok (.aload_n 0, 1) := by decide +kernel
theorem dX2_fewestTaught_44 : decode cX2_fewestTaught 44 = .ok (.getfield 23, 3) := by decide +kernel
theorem dX2_fewestTaught_47 : decode cX2_fewestTaught 47 = .ok (.iload_n 2, 1) := by decide +kernel
theorem dX2_fewestTaught_48 : decode cX2_fewestTaught 48 = .ok (.invokevirtual 56, 3) := by decide +kernel
theorem dX2_fewestTaught_51 : decode cX2_fewestTaught 51 = .ok (.bipush 24, 2) := by decide +kernel
theorem dX2_fewestTaught_53 : decode cX2_fewestTaught 53 = .ok (.invokevirtual 59, 3) := by decide +kernel
theorem dX2_fewestTaught_56 : decode cX2_fewestTaught 56 = .ok (.iastore, 1) := by decide +kernel
theorem dX2_fewestTaught_57 : decode cX2_fewestTaught 57 = .ok (.aload_n 0, 1) := by decide +kernel
theorem dX2_fewestTaught_58 : decode cX2_fewestTaught 58 = .ok (.getfield 17, 3) := by decide +kernel
theorem dX2_fewestTaught_61 : decode cX2_fewestTaught 61 = .ok (.iload_n 2, 1) := by decide +kernel
theorem dX2_fewestTaught_62 : decode cX2_fewestTaught 62 = .ok (.aload_n 0, 1) := by decide +kernel
theorem dX2_fewestTaught_63 : decode cX2_fewestTaught 63 = .ok (.iload_n 3, 1) := by decide +kernel
theorem dX2_fewestTaught_64 : decode cX2_fewestTaught 64 = .ok (.bipush 24, 2) := by decide +kernel
theorem dX2_fewestTaught_66 : decode cX2_fewestTaught 66 = .ok (.invokevirtual 59, 3) := by decide +kernel
theorem dX2_fewestTaught_69 : decode cX2_fewestTaught 69 = .ok (.iastore, 1) := by decide +kernel
theorem dX2_fewestTaught_70 : decode cX2_fewestTaught 70 = .ok (.iinc 2 1, 3) := by decide +kernel
theorem dX2_fewestTaught_73 : decode cX2_fewestTaught 73 = .ok (.goto (-71), 3) := by decide +kernel
theorem dX2_fewestTaught_76 : decode cX2_fewestTaught 76 = .ok (.ldc 31, 2) := by decide +kernel
theorem dX2_fewestTaught_78 : decode cX2_fewestTaught 78 = .ok (.istore_n 2, 1) := by decide +kernel
theorem dX2_fewestTaught_79 : decode cX2_fewestTaught 79 = .ok (.aload_n 0, 1) := by decide +kernel
theorem dX2_fewestTaught_80 : decode cX2_fewestTaught 80 = .ok (.getfield 23, 3) := by decide +kernel
theorem dX2_fewestTaught_83 : decode cX2_fewestTaught 83 = .ok (.getfield 43, 3) := by decide +kernel
theorem dX2_fewestTaught_86 : decode cX2_fewestTaught 86 = .ok (.iconst 1, 1) := by decide +kernel
theorem dX2_fewestTaught_87 : decode cX2_fewestTaught 87 = .ok (.iadd, 1) := by decide +kernel
theorem dX2_fewestTaught_88 : decode cX2_fewestTaught 88 = .ok (.istore_n 3, 1) := by decide +kernel
theorem dX2_fewestTaught_89 : decode cX2_fewestTaught 89 = .ok (.iconst 0, 1) := by decide +kernel
theorem dX2_fewestTaught_90 : decode cX2_fewestTaught 90 = .ok (.istore 4, 2) := by decide +kernel
theorem dX2_fewestTaught_92 : decode cX2_fewestTaught 92 = .ok (.iload 4, 2) := by decide +kernel
theorem dX2_fewestTaught_94 : decode cX2_fewestTaught 94 = .ok (.iconst 1, 1) := by decide +kernel
theorem dX2_fewestTaught_95 : decode cX2_fewestTaught 95 = .ok (.aload_n 0, 1) := by decide +kernel
theorem dX2_fewestTaught_96 : decode cX2_fewestTaught 96 = .ok (.getfield 23, 3) := by decide +kernel
theorem dX2_fewestTaught_99 : decode cX2_fewestTaught 99 = .ok (.getfield 43, 3) := by decide +kernel
theorem dX2_fewestTaught_102 : decode cX2_fewestTaught 102 = .ok (.ishl, 1) := by decide +kernel
theorem dX2_fewestTaught_103 : decode cX2_fewestTaught 103 = .ok (.if_icmp .ge 52, 3) := by decide +kernel
theorem dX2_fewestTaught_106 : decode cX2_fewestTaught 106 = .ok (.iload_n 1, 1) := by decide +kernel
theorem dX2_fewestTaught_107 : decode cX2_fewestTaught 107 = .ok (.aload_n 0, 1) := by decide +kernel
theorem dX2_fewestTaught_108 : decode cX2_fewestTaught 108 = .ok (.iload 4, 2) := by decide +kernel
theorem dX2_fewestTaught_110 : decode cX2_fewestTaught 110 = .ok (.invokevirtual 62, 3) := by decide +kernel
theorem dX2_fewestTaught_113 : decode cX2_fewestTaught 113 = .ok (.iconst (-1), 1) := by decide +kernel
theorem dX2_fewestTaught_114 : decode cX2_fewestTaught 114 = .ok (.ixor, 1) := by decide +kernel
theorem dX2_fewestTaught_115 : decode cX2_fewestTaught 115 = .ok (.iand, 1) := by decide +kernel
theorem dX2_fewestTaught_116 : decode cX2_fewestTaught 116 = .ok (.ifCond .ne 7, 3) := by decide +kernel
theorem dX2_fewestTaught_119 : decode cX2_fewestTaught 119 = .ok (.iconst 1, 1) := by decide +kernel
theorem dX2_fewestTaught_120 : decode cX2_fewestTaught 120 = .ok (.goto 4, 3) := by decide +kernel
theorem dX2_fewestTaught_123 : decode cX2_fewestTaught 123 = .ok (.iconst 0, 1) := by decide +kernel
theorem dX2_fewestTaught_124 : decode cX2_fewestTaught 124 = .ok (.istore 5, 2) := by decide +kernel
theorem dX2_fewestTaught_126 : decode cX2_fewestTaught 126 = .ok (.iload 5, 2) := by decide +kernel
theorem dX2_fewestTaught_128 : decode cX2_fewestTaught 128 = .ok (.ifCond .eq 21, 3) := by decide +kernel
theorem dX2_fewestTaught_131 : decode cX2_fewestTaught 131 = .ok (.iload 4, 2) := by decide +kernel
theorem dX2_fewestTaught_133 : decode cX2_fewestTaught 133 = .ok (.invokestatic 65, 3) := by decide +kernel
theorem dX2_fewestTaught_136 : decode cX2_fewestTaught 136 = .ok (.iload_n 3, 1) := by decide +kernel
theorem dX2_fewestTaught_137 : decode cX2_fewestTaught 137 = .ok (.if_icmp .ge 12, 3) := by decide +kernel
theorem dX2_fewestTaught_140 : decode cX2_fewestTaught 140 = .ok (.iload 4, 2) := by decide +kernel
theorem dX2_fewestTaught_142 : decode cX2_fewestTaught 142 = .ok (.istore_n 2, 1) := by decide +kernel
theorem dX2_fewestTaught_143 : decode cX2_fewestTaught 143 = .ok (.iload 4, 2) := by decide +kernel
theorem dX2_fewestTaught_145 : decode cX2_fewestTaught 145 = .ok (.invokestatic 65, 3) := by decide +kernel
theorem dX2_fewestTaught_148 : decode cX2_fewestTaught 148 = .ok (.istore_n 3, 1) := by decide +kernel
theorem dX2_fewestTaught_149 : decode cX2_fewestTaught 149 = .ok (.iinc 4 1, 3) := by decide +kernel
theorem dX2_fewestTaught_152 : decode cX2_fewestTaught 152 = .ok (.goto (-60), 3) := by decide +kernel
theorem dX2_fewestTaught_155 : decode cX2_fewestTaught 155 = .ok (.iload_n 2, 1) := by decide +kernel
theorem dX2_fewestTaught_156 : decode cX2_fewestTaught 156 = .ok (.ireturn, 1) := by decide +kernel
theorem dX2_nightsIfTaught_0 : decode cX2_nightsIfTaught 0 = .ok (.iconst 0, 1) := by decide +kernel
theorem dX2_nightsIfTaught_1 : decode cX2_nightsIfTaught 1 = .ok (.istore_n 2, 1) := by decide +kernel
theorem dX2_nightsIfTaught_2 : decode cX2_nightsIfTaught 2 = .ok (.iconst 0, 1) := by decide +kernel
theorem dX2_nightsIfTaught_3 : decode cX2_nightsIfTaught 3 = .ok (.istore_n 3, 1) := by decide +kernel
theorem dX2_nightsIfTaught_4 : decode cX2_nightsIfTaught 4 = .ok (.iload_n 3, 1) := by decide +kernel
theorem dX2_nightsIfTaught_5 : decode cX2_nightsIfTaught 5 = .ok (.aload_n 0, 1) := by decide +kernel
theorem dX2_nightsIfTaught_6 : decode cX2_nightsIfTaught 6 = .ok (.getfield 23, 3) := by decide +kernel
theorem dX2_nightsIfTaught_9 : decode cX2_nightsIfTaught 9 = .ok (.getfield 43, 3) := by decide +kernel
theorem dX2_nightsIfTaught_12 : decode cX2_nightsIfTaught 12 = .ok (.if_icmp .ge 48, 3) := by decide +kernel
theorem dX2_nightsIfTaught_15 : decode cX2_nightsIfTaught 15 = .ok (.iload_n 1, 1) := by decide +kernel
theorem dX2_nightsIfTaught_16 : decode cX2_nightsIfTaught 16 = .ok (.iload_n 3, 1) := by decide +kernel
theorem dX2_nightsIfTaught_17 : decode cX2_nightsIfTaught 17 = .ok (.ishr, 1) := by decide +kernel
theorem dX2_nightsIfTaught_18 : decode cX2_nightsIfTaught 18 = .ok (.iconst 1, 1) := by decide +kernel
theorem dX2_nightsIfTaught_19 : decode cX2_nightsIfTaught 19 = .ok (.iand, 1) := by decide +kernel
theorem dX2_nightsIfTaught_20 : decode cX2_nightsIfTaught 20 = .ok (.iconst 1, 1) := by decide +kernel
theorem dX2_nightsIfTaught_21 : decode cX2_nightsIfTaught 21 = .ok (.if_icmp .ne 7, 3) := by decide +kernel
theorem dX2_nightsIfTaught_24 : decode cX2_nightsIfTaught 24 = .ok (.iconst 1, 1) := by decide +kernel
theorem dX2_nightsIfTaught_25 : decode cX2_nightsIfTaught 25 = .ok (.goto 4, 3) := by decide +kernel
theorem dX2_nightsIfTaught_28 : decode cX2_nightsIfTaught 28 = .ok (.iconst 0, 1) := by decide +kernel
theorem dX2_nightsIfTaught_29 : decode cX2_nightsIfTaught 29 = .ok (.istore 4, 2) := by decide +kernel
theorem dX2_nightsIfTaught_31 : decode cX2_nightsIfTaught 31 = .ok (.iload_n 2, 1) := by decide +kernel
theorem dX2_nightsIfTaught_32 : decode cX2_nightsIfTaught 32 = .ok (.iload 4, 2) := by decide +kernel
theorem dX2_nightsIfTaught_34 : decode cX2_nightsIfTaught 34 = .ok (.ifCond .eq 12, 3) := by decide +kernel
theorem dX2_nightsIfTaught_37 : decode cX2_nightsIfTaught 37 = .ok (.aload_n 0, 1) := by decide +kernel
theorem dX2_nightsIfTaught_38 : decode cX2_nightsIfTaught 38 = .ok (.getfield 17, 3) := by decide +kernel
theorem dX2_nightsIfTaught_41 : decode cX2_nightsIfTaught 41 = .ok (.iload_n 3, 1) := by decide +kernel
theorem dX2_nightsIfTaught_42 : decode cX2_nightsIfTaught 42 = .ok (.iaload, 1) := by decide +kernel
theorem dX2_nightsIfTaught_43 : decode cX2_nightsIfTaught 43 = .ok (.goto 9, 3) := by decide +kernel
theorem dX2_nightsIfTaught_46 : decode cX2_nightsIfTaught 46 = .ok (.aload_n 0, 1) := by decide +kernel
theorem dX2_nightsIfTaught_47 : decode cX2_nightsIfTaught 47 = .ok (.getfield 11, 3) := by decide +kernel
theorem dX2_nightsIfTaught_50 : decode cX2_nightsIfTaught 50 = .ok (.iload_n 3, 1) := by decide +kernel
theorem dX2_nightsIfTaught_51 : decode cX2_nightsIfTaught 51 = .ok (.iaload, 1) := by decide +kernel
theorem dX2_nightsIfTaught_52 : decode cX2_nightsIfTaught 52 = .ok (.ior, 1) := by decide +kernel
theorem dX2_nightsIfTaught_53 : decode cX2_nightsIfTaught 53 = .ok (.istore_n 2, 1) := by decide +kernel
theorem dX2_nightsIfTaught_54 : decode cX2_nightsIfTaught 54 = .ok (.iinc 3 1, 3) := by decide +kernel
theorem dX2_nightsIfTaught_57 : decode cX2_nightsIfTaught 57 = .ok (.goto (-53), 3) := by decide +kernel
theorem dX2_nightsIfTaught_60 : decode cX2_nightsIfTaught 60 = .ok (.iload_n 2, 1) := by decide +kernel
theorem dX2_nightsIfTaught_61 : decode cX2_nightsIfTaught 61 = .ok (.ireturn, 1) := by decide +kernel
theorem dX2_programmes_0 : decode cX2_programmes 0 = .ok (.aload_n 0, 1) := by decide +kernel
theorem dX2_programmes_1 : decode cX2_programmes 1 = .ok (.iload_n 1, 1) := by decide +kernel
theorem dX2_programmes_2 : decode cX2_programmes 2 = .ok (.invokevirtual 70, 3) := by decide +kernel
theorem dX2_programmes_5 : decode cX2_programmes 5 = .ok (.aload_n 0, 1) := by decide +kernel
theorem dX2_programmes_6 : decode cX2_programmes 6 = .ok (.iconst 0, 1) := by decide +kernel
theorem dX2_programmes_7 : decode cX2_programmes 7 = .ok (.iconst 1, 1) := by decide +kernel
theorem dX2_programmes_8 : decode cX2_programmes 8 = .ok (.iload_n 1, 1) := by decide +kernel
theorem dX2_programmes_9 : decode cX2_programmes 9 = .ok (.ishl, 1) := by decide +kernel
theorem dX2_programmes_10 : decode cX2_programmes 10 = .ok (.iconst 1, 1) := by decide +kernel
theorem dX2_programmes_11 : decode cX2_programmes 11 = .ok (.isub, 1) := by decide +kernel
theorem dX2_programmes_12 : decode cX2_programmes 12 = .ok (.invokevirtual 74, 3) := by decide +kernel
theorem dX2_programmes_15 : decode cX2_programmes 15 = .ok (.ireturn, 1) := by decide +kernel
theorem dX2_nightOfPiece_0 : decode cX2_nightOfPiece 0 = .ok (.iload_n 2, 1) := by decide +kernel
theorem dX2_nightOfPiece_1 : decode cX2_nightOfPiece 1 = .ok (.aload_n 0, 1) := by decide +kernel
theorem dX2_nightOfPiece_2 : decode cX2_nightOfPiece 2 = .ok (.getfield 23, 3) := by decide +kernel
theorem dX2_nightOfPiece_5 : decode cX2_nightOfPiece 5 = .ok (.getfield 77, 3) := by decide +kernel
theorem dX2_nightOfPiece_8 : decode cX2_nightOfPiece 8 = .ok (.if_icmp .lt 6, 3) := by decide +kernel
theorem dX2_nightOfPiece_11 : decode cX2_nightOfPiece 11 = .ok (.ldc 31, 2) := by decide +kernel
theorem dX2_nightOfPiece_13 : decode cX2_nightOfPiece 13 = .ok (.ireturn, 1) := by decide +kernel
theorem dX2_nightOfPiece_14 : decode cX2_nightOfPiece 14 = .ok (.aload_n 0, 1) := by decide +kernel
theorem dX2_nightOfPiece_15 : decode cX2_nightOfPiece 15 = .ok (.iload_n 1, 1) := by decide +kernel
theorem dX2_nightOfPiece_16 : decode cX2_nightOfPiece 16 = .ok (.invokevirtual 70, 3) := by decide +kernel
theorem dX2_nightOfPiece_19 : decode cX2_nightOfPiece 19 = .ok (.iconst 1, 1) := by decide +kernel
theorem dX2_nightOfPiece_20 : decode cX2_nightOfPiece 20 = .ok (.iload_n 1, 1) := by decide +kernel
theorem dX2_nightOfPiece_21 : decode cX2_nightOfPiece 21 = .ok (.ishl, 1) := by decide +kernel
theorem dX2_nightOfPiece_22 : decode cX2_nightOfPiece 22 = .ok (.iconst 1, 1) := by decide +kernel
theorem dX2_nightOfPiece_23 : decode cX2_nightOfPiece 23 = .ok (.isub, 1) := by decide +kernel
theorem dX2_nightOfPiece_24 : decode cX2_nightOfPiece 24 = .ok (.istore_n 3, 1) := by decide +kernel
theorem dX2_nightOfPiece_25 : decode cX2_nightOfPiece 25 = .ok (.ldc 31, 2) := by decide +kernel
theorem dX2_nightOfPiece_27 : decode cX2_nightOfPiece 27 = .ok (.istore 4, 2) := by decide +kernel
theorem dX2_nightOfPiece_29 : decode cX2_nightOfPiece 29 = .ok (.iconst 0, 1) := by decide +kernel
theorem dX2_nightOfPiece_30 : decode cX2_nightOfPiece 30 = .ok (.istore 5, 2) := by decide +kernel
theorem dX2_nightOfPiece_32 : decode cX2_nightOfPiece 32 = .ok (.iload 5, 2) := by decide +kernel
theorem dX2_nightOfPiece_34 : decode cX2_nightOfPiece 34 = .ok (.iload_n 2, 1) := by decide +kernel
theorem dX2_nightOfPiece_35 : decode cX2_nightOfPiece 35 = .ok (.if_icmp .gt 37, 3) := by decide +kernel
theorem dX2_nightOfPiece_38 : decode cX2_nightOfPiece 38 = .ok (.aload_n 0, 1) := by decide +kernel
theorem dX2_nightOfPiece_39 : decode cX2_nightOfPiece 39 = .ok (.iload 5, 2) := by decide +kernel
theorem dX2_nightOfPiece_41 : decode cX2_nightOfPiece 41 = .ok (.iload_n 3, 1) := by decide +kernel
theorem dX2_nightOfPiece_42 : decode cX2_nightOfPiece 42 = .ok (.invokevirtual 80, 3) := by decide +kernel
theorem dX2_nightOfPiece_45 : decode cX2_nightOfPiece 45 = .ok (.istore 4, 2) := by decide +kernel
theorem dX2_nightOfPiece_47 : decode cX2_nightOfPiece 47 = .ok (.iload 4, 2) := by decide +kernel
theorem dX2_nightOfPiece_49 : decode cX2_nightOfPiece 49 = .ok (.ldc 31, 2) := by decide +kernel
theorem dX2_nightOfPiece_51 : decode cX2_nightOfPiece 51 = .ok (.if_icmp .ne 6, 3) := by decide +kernel
theorem dX2_nightOfPiece_54 : decode cX2_nightOfPiece 54 = .ok (.ldc 31, 2) := by decide +kernel
theorem dX2_nightOfPiece_56 : decode cX2_nightOfPiece 56 = .ok (.ireturn, 1) := by decide +kernel
theorem dX2_nightOfPiece_57 : decode cX2_nightOfPiece 57 = .ok (.iload_n 3, 1) := by decide +kernel
theorem dX2_nightOfPiece_58 : decode cX2_nightOfPiece 58 = .ok (.iconst 1, 1) := by decide +kernel
theorem dX2_nightOfPiece_59 : decode cX2_nightOfPiece 59 = .ok (.iload 4, 2) := by decide +kernel
theorem dX2_nightOfPiece_61 : decode cX2_nightOfPiece 61 = .ok (.ishl, 1) := by decide +kernel
theorem dX2_nightOfPiece_62 : decode cX2_nightOfPiece 62 = .ok (.iconst (-1), 1) := by decide +kernel
theorem dX2_nightOfPiece_63 : decode cX2_nightOfPiece 63 = .ok (.ixor, 1) := by decide +kernel
theorem dX2_nightOfPiece_64 : decode cX2_nightOfPiece 64 = .ok (.iand, 1) := by decide +kernel
theorem dX2_nightOfPiece_65 : decode cX2_nightOfPiece 65 = .ok (.istore_n 3, 1) := by decide +kernel
theorem dX2_nightOfPiece_66 : decode cX2_nightOfPiece 66 = .ok (.iinc 5 1, 3) := by decide +kernel
theorem dX2_nightOfPiece_69 : decode cX2_nightOfPiece 69 = .ok (.goto (-37), 3) := by decide +kernel
theorem dX2_nightOfPiece_72 : decode cX2_nightOfPiece 72 = .ok (.iload 4, 2) := by decide +kernel
theorem dX2_nightOfPiece_74 : decode cX2_nightOfPiece 74 = .ok (.ireturn, 1) := by decide +kernel
theorem dX2_firstNightFor_0 : decode cX2_firstNightFor 0 = .ok (.aload_n 0, 1) := by decide +kernel
theorem dX2_firstNightFor_1 : decode cX2_firstNightFor 1 = .ok (.getfield 20, 3) := by decide +kernel
theorem dX2_firstNightFor_4 : decode cX2_firstNightFor 4 = .ok (.iload_n 1, 1) := by decide +kernel
theorem dX2_firstNightFor_5 : decode cX2_firstNightFor 5 = .ok (.iaload, 1) := by decide +kernel
theorem dX2_firstNightFor_6 : decode cX2_firstNightFor 6 = .ok (.iload_n 2, 1) := by decide +kernel
theorem dX2_firstNightFor_7 : decode cX2_firstNightFor 7 = .ok (.iand, 1) := by decide +kernel
theorem dX2_firstNightFor_8 : decode cX2_firstNightFor 8 = .ok (.istore_n 3, 1) := by decide +kernel
theorem dX2_firstNightFor_9 : decode cX2_firstNightFor 9 = .ok (.iconst 0, 1) := by decide +kernel
theorem dX2_firstNightFor_10 : decode cX2_firstNightFor 10 = .ok (.istore 4, 2) := by decide +kernel
theorem dX2_firstNightFor_12 : decode cX2_firstNightFor 12 = .ok (.iload 4, 2) := by decide +kernel
theorem dX2_firstNightFor_14 : decode cX2_firstNightFor 14 = .ok (.bipush 6, 2) := by decide +kernel
theorem dX2_firstNightFor_16 : decode cX2_firstNightFor 16 = .ok (.if_icmp .ge 41, 3) := by decide +kernel
theorem dX2_firstNightFor_19 : decode cX2_firstNightFor 19 = .ok (.iconst 1, 1) := by decide +kernel
theorem dX2_firstNightFor_20 : decode cX2_firstNightFor 20 = .ok (.iload 4, 2) := by decide +kernel
theorem dX2_firstNightFor_22 : decode cX2_firstNightFor 22 = .ok (.ishl, 1) := by decide +kernel
theorem dX2_firstNightFor_23 : decode cX2_firstNightFor 23 = .ok (.istore 5, 2) := by decide +kernel
theorem dX2_firstNightFor_25 : decode cX2_firstNightFor 25 = .ok (.iload_n 3, 1) := by decide +kernel
theorem dX2_firstNightFor_26 : decode cX2_firstNightFor 26 = .ok (.iload 5, 2) := by decide +kernel
theorem dX2_firstNightFor_28 : decode cX2_firstNightFor 28 = .ok (.iand, 1) := by decide +kernel
theorem dX2_firstNightFor_29 : decode cX2_firstNightFor 29 = .ok (.ifCond .eq 22, 3) := by decide +kernel
theorem dX2_firstNightFor_32 : decode cX2_firstNightFor 32 = .ok (.aload_n 0, 1) := by decide +kernel
theorem dX2_firstNightFor_33 : decode cX2_firstNightFor 33 = .ok (.iload_n 1, 1) := by decide +kernel
theorem dX2_firstNightFor_34 : decode cX2_firstNightFor 34 = .ok (.iconst 1, 1) := by decide +kernel
theorem dX2_firstNightFor_35 : decode cX2_firstNightFor 35 = .ok (.iadd, 1) := by decide +kernel
theorem dX2_firstNightFor_36 : decode cX2_firstNightFor 36 = .ok (.iload_n 2, 1) := by decide +kernel
theorem dX2_firstNightFor_37 : decode cX2_firstNightFor 37 = .ok (.iload 5, 2) := by decide +kernel
theorem dX2_firstNightFor_39 : decode cX2_firstNightFor 39 = .ok (.iconst (-1), 1) := by decide +kernel
theorem dX2_firstNightFor_40 : decode cX2_firstNightFor 40 = .ok (.ixor, 1) := by decide +kernel
theorem dX2_firstNightFor_41 : decode cX2_firstNightFor 41 = .ok (.iand, 1) := by decide +kernel
theorem dX2_firstNightFor_42 : decode cX2_firstNightFor 42 = .ok (.invokevirtual 74, 3) := by decide +kernel
theorem dX2_firstNightFor_45 : decode cX2_firstNightFor 45 = .ok (.ifCond .le 6, 3) := by decide +kernel
theorem dX2_firstNightFor_48 : decode cX2_firstNightFor 48 = .ok (.iload 4, 2) := by decide +kernel
theorem dX2_firstNightFor_50 : decode cX2_firstNightFor 50 = .ok (.ireturn, 1) := by decide +kernel
theorem dX2_firstNightFor_51 : decode cX2_firstNightFor 51 = .ok (.iinc 4 1, 3) := by decide +kernel
theorem dX2_firstNightFor_54 : decode cX2_firstNightFor 54 = .ok (.goto (-42), 3) := by decide +kernel
theorem dX2_firstNightFor_57 : decode cX2_firstNightFor 57 = .ok (.ldc 31, 2) := by decide +kernel
theorem dX2_firstNightFor_59 : decode cX2_firstNightFor 59 = .ok (.ireturn, 1) := by decide +kernel
theorem dX2_findPieceNights_0 : decode cX2_findPieceNights 0 = .ok (.iconst 0, 1) := by decide +kernel
theorem dX2_findPieceNights_1 : decode cX2_findPieceNights 1 = .ok (.istore_n 2, 1) := by decide +kernel
theorem dX2_findPieceNights_2 : decode cX2_findPieceNights 2 = .ok (.iload_n 2, 1) := by decide +kernel
theorem dX2_findPieceNights_3 : decode cX2_findPieceNights 3 = .ok (.aload_n 0, 1) := by decide +kernel
theorem dX2_findPieceNights_4 : decode cX2_findPieceNights 4 = .ok (.getfield 23, 3) := by decide +kernel
theorem dX2_findPieceNights_7 : decode cX2_findPieceNights 7 = .ok (.getfield 77, 3) := by decide +kernel
theorem dX2_findPieceNights_10 : decode cX2_findPieceNights 10 = .ok (.if_icmp .ge 69, 3) := by decide +kernel
theorem dX2_findPieceNights_13 : decode cX2_findPieceNights 13 = .ok (.aload_n 0, 1) := by decide +kernel
theorem dX2_findPieceNights_14 : decode cX2_findPieceNights 14 = .ok (.getfield 20, 3) := by decide +kernel
theorem dX2_findPieceNights_17 : decode cX2_findPieceNights 17 = .ok (.iload_n 2, 1) := by decide +kernel
theorem dX2_findPieceNights_18 : decode cX2_findPieceNights 18 = .ok (.iconst 0, 1) := by decide +kernel
theorem dX2_findPieceNights_19 : decode cX2_findPieceNights 19 = .ok (.iastore, 1) := by decide +kernel
theorem dX2_findPieceNights_20 : decode cX2_findPieceNights 20 = .ok (.iconst 0, 1) := by decide +kernel
theorem dX2_findPieceNights_21 : decode cX2_findPieceNights 21 = .ok (.istore_n 3, 1) := by decide +kernel
theorem dX2_findPieceNights_22 : decode cX2_findPieceNights 22 = .ok (.iload_n 3, 1) := by decide +kernel
theorem dX2_findPieceNights_23 : decode cX2_findPieceNights 23 = .ok (.aload_n 0, 1) := by decide +kernel
theorem dX2_findPieceNights_24 : decode cX2_findPieceNights 24 = .ok (.getfield 23, 3) := by decide +kernel
theorem dX2_findPieceNights_27 : decode cX2_findPieceNights 27 = .ok (.getfield 43, 3) := by decide +kernel
theorem dX2_findPieceNights_30 : decode cX2_findPieceNights 30 = .ok (.if_icmp .ge 43, 3) := by decide +kernel
theorem dX2_findPieceNights_33 : decode cX2_findPieceNights 33 = .ok (.aload_n 0, 1) := by decide +kernel
theorem dX2_findPieceNights_34 : decode cX2_findPieceNights 34 = .ok (.getfield 23, 3) := by decide +kernel
theorem dX2_findPieceNights_37 : decode cX2_findPieceNights 37 = .ok (.iload_n 3, 1) := by decide +kernel
theorem dX2_findPieceNights_38 : decode cX2_findPieceNights 38 = .ok (.iload_n 2, 1) := by decide +kernel
theorem dX2_findPieceNights_39 : decode cX2_findPieceNights 39 = .ok (.invokevirtual 83, 3) := by decide +kernel
theorem dX2_findPieceNights_42 : decode cX2_findPieceNights 42 = .ok (.ifCond .eq 25, 3) := by decide +kernel
theorem dX2_findPieceNights_45 : decode cX2_findPieceNights 45 = .ok (.aload_n 0, 1) := by decide +kernel
theorem dX2_findPieceNights_46 : decode cX2_findPieceNights 46 = .ok (.getfield 20, 3) := by decide +kernel
theorem dX2_findPieceNights_49 : decode cX2_findPieceNights 49 = .ok (.iload_n 2, 1) := by decide +kernel
theorem dX2_findPieceNights_50 : decode cX2_findPieceNights 50 = .ok (.dup2, 1) := by decide +kernel
theorem dX2_findPieceNights_51 : decode cX2_findPieceNights 51 = .ok (.iaload, 1) := by decide +kernel
theorem dX2_findPieceNights_52 : decode cX2_findPieceNights 52 = .ok (.aload_n 0, 1) := by decide +kernel
theorem dX2_findPieceNights_53 : decode cX2_findPieceNights 53 = .ok (.aload_n 0, 1) := by decide +kernel
theorem dX2_findPieceNights_54 : decode cX2_findPieceNights 54 = .ok (.getfield 23, 3) := by decide +kernel
theorem dX2_findPieceNights_57 : decode cX2_findPieceNights 57 = .ok (.iload_n 3, 1) := by decide +kernel
theorem dX2_findPieceNights_58 : decode cX2_findPieceNights 58 = .ok (.invokevirtual 56, 3) := by decide +kernel
theorem dX2_findPieceNights_61 : decode cX2_findPieceNights 61 = .ok (.iload_n 1, 1) := by decide +kernel
theorem dX2_findPieceNights_62 : decode cX2_findPieceNights 62 = .ok (.invokevirtual 59, 3) := by decide +kernel
theorem dX2_findPieceNights_65 : decode cX2_findPieceNights 65 = .ok (.ior, 1) := by decide +kernel
theorem dX2_findPieceNights_66 : decode cX2_findPieceNights 66 = .ok (.iastore, 1) := by decide +kernel
theorem dX2_findPieceNights_67 : decode cX2_findPieceNights 67 = .ok (.iinc 3 1, 3) := by decide +kernel
theorem dX2_findPieceNights_70 : decode cX2_findPieceNights 70 = .ok (.goto (-48), 3) := by decide +kernel
theorem dX2_findPieceNights_73 : decode cX2_findPieceNights 73 = .ok (.iinc 2 1, 3) := by decide +kernel
theorem dX2_findPieceNights_76 : decode cX2_findPieceNights 76 = .ok (.goto (-74), 3) := by decide +kernel
theorem dX2_findPieceNights_79 : decode cX2_findPieceNights 79 = .ok (.return_, 1) := by decide +kernel
theorem dX2_waysFrom_0 : decode cX2_waysFrom 0 = .ok (.iload_n 1, 1) := by decide +kernel
theorem dX2_waysFrom_1 : decode cX2_waysFrom 1 = .ok (.aload_n 0, 1) := by decide +kernel
theorem dX2_waysFrom_2 : decode cX2_waysFrom 2 = .ok (.getfield 23, 3) := by decide +kernel
theorem dX2_waysFrom_5 : decode cX2_waysFrom 5 = .ok (.getfield 77, 3) := by decide +kernel
theorem dX2_waysFrom_8 : decode cX2_waysFrom 8 = .ok (.if_icmp .lt 5, 3) := by decide +kernel
theorem dX2_waysFrom_11 : decode cX2_waysFrom 11 = .ok (.iconst 1, 1) := by decide +kernel
theorem dX2_waysFrom_12 : decode cX2_waysFrom 12 = .ok (.ireturn, 1) := by decide +kernel
theorem dX2_waysFrom_13 : decode cX2_waysFrom 13 = .ok (.aload_n 0, 1) := by decide +kernel
theorem dX2_waysFrom_14 : decode cX2_waysFrom 14 = .ok (.getfield 20, 3) := by decide +kernel
theorem dX2_waysFrom_17 : decode cX2_waysFrom 17 = .ok (.iload_n 1, 1) := by decide +kernel
theorem dX2_waysFrom_18 : decode cX2_waysFrom 18 = .ok (.iaload, 1) := by decide +kernel
theorem dX2_waysFrom_19 : decode cX2_waysFrom 19 = .ok (.iload_n 2, 1) := by decide +kernel
theorem dX2_waysFrom_20 : decode cX2_waysFrom 20 = .ok (.iand, 1) := by decide +kernel
theorem dX2_waysFrom_21 : decode cX2_waysFrom 21 = .ok (.istore_n 3, 1) := by decide +kernel
theorem dX2_waysFrom_22 : decode cX2_waysFrom 22 = .ok (.iconst 0, 1) := by decide +kernel
theorem dX2_waysFrom_23 : decode cX2_waysFrom 23 = .ok (.istore 4, 2) := by decide +kernel
theorem dX2_waysFrom_25 : decode cX2_waysFrom 25 = .ok (.iconst 0, 1) := by decide +kernel
theorem dX2_waysFrom_26 : decode cX2_waysFrom 26 = .ok (.istore 5, 2) := by decide +kernel
theorem dX2_waysFrom_28 : decode cX2_waysFrom 28 = .ok (.iload 5, 2) := by decide +kernel
theorem dX2_waysFrom_30 : decode cX2_waysFrom 30 = .ok (.bipush 6, 2) := by decide +kernel
theorem dX2_waysFrom_32 : decode cX2_waysFrom 32 = .ok (.if_icmp .ge 40, 3) := by decide +kernel
theorem dX2_waysFrom_35 : decode cX2_waysFrom 35 = .ok (.iconst 1, 1) := by decide +kernel
theorem dX2_waysFrom_36 : decode cX2_waysFrom 36 = .ok (.iload 5, 2) := by decide +kernel
theorem dX2_waysFrom_38 : decode cX2_waysFrom 38 = .ok (.ishl, 1) := by decide +kernel
theorem dX2_waysFrom_39 : decode cX2_waysFrom 39 = .ok (.istore 6, 2) := by decide +kernel
theorem dX2_waysFrom_41 : decode cX2_waysFrom 41 = .ok (.iload_n 3, 1) := by decide +kernel
theorem dX2_waysFrom_42 : decode cX2_waysFrom 42 = .ok (.iload 6, 2) := by decide +kernel
theorem dX2_waysFrom_44 : decode cX2_waysFrom 44 = .ok (.iand, 1) := by decide +kernel
theorem dX2_waysFrom_45 : decode cX2_waysFrom 45 = .ok (.ifCond .eq 21, 3) := by decide +kernel
theorem dX2_waysFrom_48 : decode cX2_waysFrom 48 = .ok (.iload 4, 2) := by decide +kernel
theorem dX2_waysFrom_50 : decode cX2_waysFrom 50 = .ok (.aload_n 0, 1) := by decide +kernel
theorem dX2_waysFrom_51 : decode cX2_waysFrom 51 = .ok (.iload_n 1, 1) := by decide +kernel
theorem dX2_waysFrom_52 : decode cX2_waysFrom 52 = .ok (.iconst 1, 1) := by decide +kernel
theorem dX2_waysFrom_53 : decode cX2_waysFrom 53 = .ok (.iadd, 1) := by decide +kernel
theorem dX2_waysFrom_54 : decode cX2_waysFrom 54 = .ok (.iload_n 2, 1) := by decide +kernel
theorem dX2_waysFrom_55 : decode cX2_waysFrom 55 = .ok (.iload 6, 2) := by decide +kernel
theorem dX2_waysFrom_57 : decode cX2_waysFrom 57 = .ok (.iconst (-1), 1) := by decide +kernel
theorem dX2_waysFrom_58 : decode cX2_waysFrom 58 = .ok (.ixor, 1) := by decide +kernel
theorem dX2_waysFrom_59 : decode cX2_waysFrom 59 = .ok (.iand, 1) := by decide +kernel
theorem dX2_waysFrom_60 : decode cX2_waysFrom 60 = .ok (.invokevirtual 74, 3) := by decide +kernel
theorem dX2_waysFrom_63 : decode cX2_waysFrom 63 = .ok (.iadd, 1) := by decide +kernel
theorem dX2_waysFrom_64 : decode cX2_waysFrom 64 = .ok (.istore 4, 2) := by decide +kernel
theorem dX2_waysFrom_66 : decode cX2_waysFrom 66 = .ok (.iinc 5 1, 3) := by decide +kernel
theorem dX2_waysFrom_69 : decode cX2_waysFrom 69 = .ok (.goto (-41), 3) := by decide +kernel
theorem dX2_waysFrom_72 : decode cX2_waysFrom 72 = .ok (.iload 4, 2) := by decide +kernel
theorem dX2_waysFrom_74 : decode cX2_waysFrom 74 = .ok (.ireturn, 1) := by decide +kernel
theorem dX2_chordCount_0 : decode cX2_chordCount 0 = .ok (.iconst 1, 1) := by decide +kernel
theorem dX2_chordCount_1 : decode cX2_chordCount 1 = .ok (.aload_n 0, 1) := by decide +kernel
theorem dX2_chordCount_2 : decode cX2_chordCount 2 = .ok (.invokevirtual 87, 3) := by decide +kernel
theorem dX2_chordCount_5 : decode cX2_chordCount 5 = .ok (.ishl, 1) := by decide +kernel
theorem dX2_chordCount_6 : decode cX2_chordCount 6 = .ok (.ireturn, 1) := by decide +kernel
theorem dX2_chordNumber_0 : decode cX2_chordNumber 0 = .ok (.iconst 1, 1) := by decide +kernel
theorem dX2_chordNumber_1 : decode cX2_chordNumber 1 = .ok (.aload_n 0, 1) := by decide +kernel
theorem dX2_chordNumber_2 : decode cX2_chordNumber 2 = .ok (.invokevirtual 87, 3) := by decide +kernel
theorem dX2_chordNumber_5 : decode cX2_chordNumber 5 = .ok (.invokestatic 91, 3) := by decide +kernel
theorem dX2_chordNumber_8 : decode cX2_chordNumber 8 = .ok (.istore_n 2, 1) := by decide +kernel
theorem dX2_chordNumber_9 : decode cX2_chordNumber 9 = .ok (.iconst 0, 1) := by decide +kernel
theorem dX2_chordNumber_10 : decode cX2_chordNumber 10 = .ok (.istore_n 3, 1) := by decide +kernel
theorem dX2_chordNumber_11 : decode cX2_chordNumber 11 = .ok (.iconst 0, 1) := by decide +kernel
theorem dX2_chordNumber_12 : decode cX2_chordNumber 12 = .ok (.istore 4, 2) := by decide +kernel
theorem dX2_chordNumber_14 : decode cX2_chordNumber 14 = .ok (.iload 4, 2) := by decide +kernel
theorem dX2_chordNumber_16 : decode cX2_chordNumber 16 = .ok (.aload_n 0, 1) := by decide +kernel
theorem dX2_chordNumber_17 : decode cX2_chordNumber 17 = .ok (.getfield 23, 3) := by decide +kernel
theorem dX2_chordNumber_20 : decode cX2_chordNumber 20 = .ok (.getfield 32, 3) := by decide +kernel
theorem dX2_chordNumber_23 : decode cX2_chordNumber 23 = .ok (.if_icmp .ge 19, 3) := by decide +kernel
theorem dX2_chordNumber_26 : decode cX2_chordNumber 26 = .ok (.iload_n 3, 1) := by decide +kernel
theorem dX2_chordNumber_27 : decode cX2_chordNumber 27 = .ok (.iload_n 1, 1) := by decide +kernel
theorem dX2_chordNumber_28 : decode cX2_chordNumber 28 = .ok (.iload 4, 2) := by decide +kernel
theorem dX2_chordNumber_30 : decode cX2_chordNumber 30 = .ok (.ishl, 1) := by decide +kernel
theorem dX2_chordNumber_31 : decode cX2_chordNumber 31 = .ok (.ior, 1) := by decide +kernel
theorem dX2_chordNumber_32 : decode cX2_chordNumber 32 = .ok (.istore_n 3, 1) := by decide +kernel
theorem dX2_chordNumber_33 : decode cX2_chordNumber 33 = .ok (.iload 4, 2) := by decide +kernel
theorem dX2_chordNumber_35 : decode cX2_chordNumber 35 = .ok (.iload_n 2, 1) := by decide +kernel
theorem dX2_chordNumber_36 : decode cX2_chordNumber 36 = .ok (.iadd, 1) := by decide +kernel
theorem dX2_chordNumber_37 : decode cX2_chordNumber 37 = .ok (.istore 4, 2) := by decide +kernel
theorem dX2_chordNumber_39 : decode cX2_chordNumber 39 = .ok (.goto (-25), 3) := by decide +kernel
theorem dX2_chordNumber_42 : decode cX2_chordNumber 42 = .ok (.iload_n 3, 1) := by decide +kernel
theorem dX2_chordNumber_43 : decode cX2_chordNumber 43 = .ok (.ireturn, 1) := by decide +kernel
theorem dX2_ownStrings_0 : decode cX2_ownStrings 0 = .ok (.aload_n 0, 1) := by decide +kernel
theorem dX2_ownStrings_1 : decode cX2_ownStrings 1 = .ok (.getfield 23, 3) := by decide +kernel
theorem dX2_ownStrings_4 : decode cX2_ownStrings 4 = .ok (.getfield 96, 3) := by decide +kernel
theorem dX2_ownStrings_7 : decode cX2_ownStrings 7 = .ok (.i2l, 1) := by decide +kernel
theorem dX2_ownStrings_8 : decode cX2_ownStrings 8 = .ok (.aload_n 0, 1) := by decide +kernel
theorem dX2_ownStrings_9 : decode cX2_ownStrings 9 = .ok (.getfield 23, 3) := by decide +kernel
theorem dX2_ownStrings_12 : decode cX2_ownStrings 12 = .ok (.getfield 32, 3) := by decide +kernel
theorem dX2_ownStrings_15 : decode cX2_ownStrings 15 = .ok (.i2l, 1) := by decide +kernel
theorem dX2_ownStrings_16 : decode cX2_ownStrings 16 = .ok (.invokestatic 99, 3) := by decide +kernel
theorem dX2_ownStrings_19 : decode cX2_ownStrings 19 = .ok (.l2i, 1) := by decide +kernel
theorem dX2_ownStrings_20 : decode cX2_ownStrings 20 = .ok (.ireturn, 1) := by decide +kernel
theorem dX2_kindsHeard_0 : decode cX2_kindsHeard 0 = .ok (.iconst 0, 1) := by decide +kernel
theorem dX2_kindsHeard_1 : decode cX2_kindsHeard 1 = .ok (.istore 5, 2) := by decide +kernel
theorem dX2_kindsHeard_3 : decode cX2_kindsHeard 3 = .ok (.iconst 1, 1) := by decide +kernel
theorem dX2_kindsHeard_4 : decode cX2_kindsHeard 4 = .ok (.istore 6, 2) := by decide +kernel
theorem dX2_kindsHeard_6 : decode cX2_kindsHeard 6 = .ok (.iload 6, 2) := by decide +kernel
theorem dX2_kindsHeard_8 : decode cX2_kindsHeard 8 = .ok (.iconst 5, 1) := by decide +kernel
theorem dX2_kindsHeard_9 : decode cX2_kindsHeard 9 = .ok (.if_icmp .gt 51, 3) := by decide +kernel
theorem dX2_kindsHeard_12 : decode cX2_kindsHeard 12 = .ok (.aload_n 0, 1) := by decide +kernel
theorem dX2_kindsHeard_13 : decode cX2_kindsHeard 13 = .ok (.getfield 23, 3) := by decide +kernel
theorem dX2_kindsHeard_16 : decode cX2_kindsHeard 16 = .ok (.iload 6, 2) := by decide +kernel
theorem dX2_kindsHeard_18 : decode cX2_kindsHeard 18 = .ok (.aload_n 0, 1) := by decide +kernel
theorem dX2_kindsHeard_19 : decode cX2_kindsHeard 19 = .ok (.getfield 23, 3) := by decide +kernel
theorem dX2_kindsHeard_22 : decode cX2_kindsHeard 22 = .ok (.getfield 103, 3) := by decide +kernel
theorem dX2_kindsHeard_25 : decode cX2_kindsHeard 25 = .ok (.iload_n 1, 1) := by decide +kernel
theorem dX2_kindsHeard_26 : decode cX2_kindsHeard 26 = .ok (.iaload, 1) := by decide +kernel
theorem dX2_kindsHeard_27 : decode cX2_kindsHeard 27 = .ok (.invokevirtual 52, 3) := by decide +kernel
theorem dX2_kindsHeard_30 : decode cX2_kindsHeard 30 = .ok (.istore 7, 2) := by decide +kernel
theorem dX2_kindsHeard_32 : decode cX2_kindsHeard 32 = .ok (.aload_n 0, 1) := by decide +kernel
theorem dX2_kindsHeard_33 : decode cX2_kindsHeard 33 = .ok (.iload 7, 2) := by decide +kernel
theorem dX2_kindsHeard_35 : decode cX2_kindsHeard 35 = .ok (.iload_n 2, 1) := by decide +kernel
theorem dX2_kindsHeard_36 : decode cX2_kindsHeard 36 = .ok (.aload_n 3, 1) := by decide +kernel
theorem dX2_kindsHeard_37 : decode cX2_kindsHeard 37 = .ok (.iload 4, 2) := by decide +kernel
theorem dX2_kindsHeard_39 : decode cX2_kindsHeard 39 = .ok (.invokevirtual 106, 3) := by decide +kernel
theorem dX2_kindsHeard_42 : decode cX2_kindsHeard 42 = .ok (.ifCond .eq 12, 3) := by decide +kernel
theorem dX2_kindsHeard_45 : decode cX2_kindsHeard 45 = .ok (.iload 5, 2) := by decide +kernel
theorem dX2_kindsHeard_47 : decode cX2_kindsHeard 47 = .ok (.iconst 1, 1) := by decide +kernel
theorem dX2_kindsHeard_48 : decode cX2_kindsHeard 48 = .ok (.iload 6, 2) := by decide +kernel
theorem dX2_kindsHeard_50 : decode cX2_kindsHeard 50 = .ok (.ishl, 1) := by decide +kernel
theorem dX2_kindsHeard_51 : decode cX2_kindsHeard 51 = .ok (.ior, 1) := by decide +kernel
theorem dX2_kindsHeard_52 : decode cX2_kindsHeard 52 = .ok (.istore 5, 2) := by decide +kernel
theorem dX2_kindsHeard_54 : decode cX2_kindsHeard 54 = .ok (.iinc 6 1, 3) := by decide +kernel
theorem dX2_kindsHeard_57 : decode cX2_kindsHeard 57 = .ok (.goto (-51), 3) := by decide +kernel
theorem dX2_kindsHeard_60 : decode cX2_kindsHeard 60 = .ok (.iload 5, 2) := by decide +kernel
theorem dX2_kindsHeard_62 : decode cX2_kindsHeard 62 = .ok (.ireturn, 1) := by decide +kernel
theorem dX2_soundsAs_0 : decode cX2_soundsAs 0 = .ok (.iconst 0, 1) := by decide +kernel
theorem dX2_soundsAs_1 : decode cX2_soundsAs 1 = .ok (.istore 5, 2) := by decide +kernel
theorem dX2_soundsAs_3 : decode cX2_soundsAs 3 = .ok (.iload 5, 2) := by decide +kernel
theorem dX2_soundsAs_5 : decode cX2_soundsAs 5 = .ok (.aload_n 0, 1) := by decide +kernel
theorem dX2_soundsAs_6 : decode cX2_soundsAs 6 = .ok (.getfield 23, 3) := by decide +kernel
theorem dX2_soundsAs_9 : decode cX2_soundsAs 9 = .ok (.getfield 110, 3) := by decide +kernel
theorem dX2_soundsAs_12 : decode cX2_soundsAs 12 = .ok (.iload_n 2, 1) := by decide +kernel
theorem dX2_soundsAs_13 : decode cX2_soundsAs 13 = .ok (.iaload, 1) := by decide +kernel
theorem dX2_soundsAs_14 : decode cX2_soundsAs 14 = .ok (.if_icmp .ge 39, 3) := by decide +kernel
theorem dX2_soundsAs_17 : decode cX2_soundsAs 17 = .ok (.aload_n 3, 1) := by decide +kernel
theorem dX2_soundsAs_18 : decode cX2_soundsAs 18 = .ok (.iload 4, 2) := by decide +kernel
theorem dX2_soundsAs_20 : decode cX2_soundsAs 20 = .ok (.iload 5, 2) := by decide +kernel
theorem dX2_soundsAs_22 : decode cX2_soundsAs 22 = .ok (.iadd, 1) := by decide +kernel
theorem dX2_soundsAs_23 : decode cX2_soundsAs 23 = .ok (.iaload, 1) := by decide +kernel
theorem dX2_soundsAs_24 : decode cX2_soundsAs 24 = .ok (.aload_n 0, 1) := by decide +kernel
theorem dX2_soundsAs_25 : decode cX2_soundsAs 25 = .ok (.getfield 23, 3) := by decide +kernel
theorem dX2_soundsAs_28 : decode cX2_soundsAs 28 = .ok (.aload_n 0, 1) := by decide +kernel
theorem dX2_soundsAs_29 : decode cX2_soundsAs 29 = .ok (.getfield 23, 3) := by decide +kernel
theorem dX2_soundsAs_32 : decode cX2_soundsAs 32 = .ok (.iload_n 2, 1) := by decide +kernel
theorem dX2_soundsAs_33 : decode cX2_soundsAs 33 = .ok (.iload 5, 2) := by decide +kernel
theorem dX2_soundsAs_35 : decode cX2_soundsAs 35 = .ok (.invokevirtual 113, 3) := by decide +kernel
theorem dX2_soundsAs_38 : decode cX2_soundsAs 38 = .ok (.iload_n 1, 1) := by decide +kernel
theorem dX2_soundsAs_39 : decode cX2_soundsAs 39 = .ok (.invokevirtual 116, 3) := by decide +kernel
theorem dX2_soundsAs_42 : decode cX2_soundsAs 42 = .ok (.if_icmp .eq 5, 3) := by decide +kernel
theorem dX2_soundsAs_45 : decode cX2_soundsAs 45 = .ok (.iconst 0, 1) := by decide +kernel
theorem dX2_soundsAs_46 : decode cX2_soundsAs 46 = .ok (.ireturn, 1) := by decide +kernel
theorem dX2_soundsAs_47 : decode cX2_soundsAs 47 = .ok (.iinc 5 1, 3) := by decide +kernel
theorem dX2_soundsAs_50 : decode cX2_soundsAs 50 = .ok (.goto (-47), 3) := by decide +kernel
theorem dX2_soundsAs_53 : decode cX2_soundsAs 53 = .ok (.iconst 1, 1) := by decide +kernel
theorem dX2_soundsAs_54 : decode cX2_soundsAs 54 = .ok (.ireturn, 1) := by decide +kernel
theorem dX2_fewestTunings_0 : decode cX2_fewestTunings 0 = .ok (.iconst 0, 1) := by decide +kernel
theorem dX2_fewestTunings_1 : decode cX2_fewestTunings 1 = .ok (.istore_n 3, 1) := by decide +kernel
theorem dX2_fewestTunings_2 : decode cX2_fewestTunings 2 = .ok (.aload_n 0, 1) := by decide +kernel
theorem dX2_fewestTunings_3 : decode cX2_fewestTunings 3 = .ok (.getfield 23, 3) := by decide +kernel
theorem dX2_fewestTunings_6 : decode cX2_fewestTunings 6 = .ok (.getfield 49, 3) := by decide +kernel
theorem dX2_fewestTunings_9 : decode cX2_fewestTunings 9 = .ok (.istore 4, 2) := by decide +kernel
theorem dX2_fewestTunings_11 : decode cX2_fewestTunings 11 = .ok (.iconst 0, 1) := by decide +kernel
theorem dX2_fewestTunings_12 : decode cX2_fewestTunings 12 = .ok (.istore 5, 2) := by decide +kernel
theorem dX2_fewestTunings_14 : decode cX2_fewestTunings 14 = .ok (.iload 5, 2) := by decide +kernel
theorem dX2_fewestTunings_16 : decode cX2_fewestTunings 16 = .ok (.iload_n 1, 1) := by decide +kernel
theorem dX2_fewestTunings_17 : decode cX2_fewestTunings 17 = .ok (.if_icmp .ge 40, 3) := by decide +kernel
theorem dX2_fewestTunings_20 : decode cX2_fewestTunings 20 = .ok (.aload_n 0, 1) := by decide +kernel
theorem dX2_fewestTunings_21 : decode cX2_fewestTunings 21 = .ok (.getfield 23, 3) := by decide +kernel
theorem dX2_fewestTunings_24 : decode cX2_fewestTunings 24 = .ok (.iload 4, 2) := by decide +kernel
theorem dX2_fewestTunings_26 : decode cX2_fewestTunings 26 = .ok (.aload_n 0, 1) := by decide +kernel
theorem dX2_fewestTunings_27 : decode cX2_fewestTunings 27 = .ok (.getfield 23, 3) := by decide +kernel
theorem dX2_fewestTunings_30 : decode cX2_fewestTunings 30 = .ok (.getfield 96, 3) := by decide +kernel
theorem dX2_fewestTunings_33 : decode cX2_fewestTunings 33 = .ok (.iadd, 1) := by decide +kernel
theorem dX2_fewestTunings_34 : decode cX2_fewestTunings 34 = .ok (.invokevirtual 40, 3) := by decide +kernel
theorem dX2_fewestTunings_37 : decode cX2_fewestTunings 37 = .ok (.istore 4, 2) := by decide +kernel
theorem dX2_fewestTunings_39 : decode cX2_fewestTunings 39 = .ok (.iload 4, 2) := by decide +kernel
theorem dX2_fewestTunings_41 : decode cX2_fewestTunings 41 = .ok (.iload_n 2, 1) := by decide +kernel
theorem dX2_fewestTunings_42 : decode cX2_fewestTunings 42 = .ok (.if_icmp .le 9, 3) := by decide +kernel
theorem dX2_fewestTunings_45 : decode cX2_fewestTunings 45 = .ok (.iconst 0, 1) := by decide +kernel
theorem dX2_fewestTunings_46 : decode cX2_fewestTunings 46 = .ok (.istore 4, 2) := by decide +kernel
theorem dX2_fewestTunings_48 : decode cX2_fewestTunings 48 = .ok (.iinc 3 1, 3) := by decide +kernel
theorem dX2_fewestTunings_51 : decode cX2_fewestTunings 51 = .ok (.iinc 5 1, 3) := by decide +kernel
theorem dX2_fewestTunings_54 : decode cX2_fewestTunings 54 = .ok (.goto (-40), 3) := by decide +kernel
theorem dX2_fewestTunings_57 : decode cX2_fewestTunings 57 = .ok (.iload_n 3, 1) := by decide +kernel
theorem dX2_fewestTunings_58 : decode cX2_fewestTunings 58 = .ok (.ireturn, 1) := by decide +kernel
theorem dX2_firstNightAlike_0 : decode cX2_firstNightAlike 0 = .ok (.iconst 0, 1) := by decide +kernel
theorem dX2_firstNightAlike_1 : decode cX2_firstNightAlike 1 = .ok (.istore_n 3, 1) := by decide +kernel
theorem dX2_firstNightAlike_2 : decode cX2_firstNightAlike 2 = .ok (.iload_n 3, 1) := by decide +kernel
theorem dX2_firstNightAlike_3 : decode cX2_firstNightAlike 3 = .ok (.bipush 100, 2) := by decide +kernel
theorem dX2_firstNightAlike_5 : decode cX2_firstNightAlike 5 = .ok (.if_icmp .gt 34, 3) := by decide +kernel
theorem dX2_firstNightAlike_8 : decode cX2_firstNightAlike 8 = .ok (.aload_n 0, 1) := by decide +kernel
theorem dX2_firstNightAlike_9 : decode cX2_firstNightAlike 9 = .ok (.getfield 23, 3) := by decide +kernel
theorem dX2_firstNightAlike_12 : decode cX2_firstNightAlike 12 = .ok (.iload_n 3, 1) := by decide +kernel
theorem dX2_firstNightAlike_13 : decode cX2_firstNightAlike 13 = .ok (.invokevirtual 27, 3) := by decide +kernel
theorem dX2_firstNightAlike_16 : decode cX2_firstNightAlike 16 = .ok (.aload_n 0, 1) := by decide +kernel
theorem dX2_firstNightAlike_17 : decode cX2_firstNightAlike 17 = .ok (.getfield 23, 3) := by decide +kernel
theorem dX2_firstNightAlike_20 : decode cX2_firstNightAlike 20 = .ok (.iload_n 2, 1) := by decide +kernel
theorem dX2_firstNightAlike_21 : decode cX2_firstNightAlike 21 = .ok (.iload_n 3, 1) := by decide +kernel
theorem dX2_firstNightAlike_22 : decode cX2_firstNightAlike 22 = .ok (.iload_n 1, 1) := by decide +kernel
theorem dX2_firstNightAlike_23 : decode cX2_firstNightAlike 23 = .ok (.imul, 1) := by decide +kernel
theorem dX2_firstNightAlike_24 : decode cX2_firstNightAlike 24 = .ok (.iadd, 1) := by decide +kernel
theorem dX2_firstNightAlike_25 : decode cX2_firstNightAlike 25 = .ok (.invokevirtual 40, 3) := by decide +kernel
theorem dX2_firstNightAlike_28 : decode cX2_firstNightAlike 28 = .ok (.if_icmp .ne 5, 3) := by decide +kernel
theorem dX2_firstNightAlike_31 : decode cX2_firstNightAlike 31 = .ok (.iload_n 3, 1) := by decide +kernel
theorem dX2_firstNightAlike_32 : decode cX2_firstNightAlike 32 = .ok (.ireturn, 1) := by decide +kernel
theorem dX2_firstNightAlike_33 : decode cX2_firstNightAlike 33 = .ok (.iinc 3 1, 3) := by decide +kernel
theorem dX2_firstNightAlike_36 : decode cX2_firstNightAlike 36 = .ok (.goto (-34), 3) := by decide +kernel
theorem dX2_firstNightAlike_39 : decode cX2_firstNightAlike 39 = .ok (.ldc 31, 2) := by decide +kernel
theorem dX2_firstNightAlike_41 : decode cX2_firstNightAlike 41 = .ok (.ireturn, 1) := by decide +kernel
theorem dX2_tenthsRight_0 : decode cX2_tenthsRight 0 = .ok (.lconst 0, 1) := by decide +kernel
theorem dX2_tenthsRight_1 : decode cX2_tenthsRight 1 = .ok (.lstore 4, 2) := by decide +kernel
theorem dX2_tenthsRight_3 : decode cX2_tenthsRight 3 = .ok (.iconst 0, 1) := by decide +kernel
theorem dX2_tenthsRight_4 : decode cX2_tenthsRight 4 = .ok (.istore 6, 2) := by decide +kernel
theorem dX2_tenthsRight_6 : decode cX2_tenthsRight 6 = .ok (.iload 6, 2) := by decide +kernel
theorem dX2_tenthsRight_8 : decode cX2_tenthsRight 8 = .ok (.iload_n 3, 1) := by decide +kernel
theorem dX2_tenthsRight_9 : decode cX2_tenthsRight 9 = .ok (.if_icmp .gt 61, 3) := by decide +kernel
theorem dX2_tenthsRight_12 : decode cX2_tenthsRight 12 = .ok (.aload_n 0, 1) := by decide +kernel
theorem dX2_tenthsRight_13 : decode cX2_tenthsRight 13 = .ok (.getfield 23, 3) := by decide +kernel
theorem dX2_tenthsRight_16 : decode cX2_tenthsRight 16 = .ok (.aload_n 0, 1) := by decide +kernel
theorem dX2_tenthsRight_17 : decode cX2_tenthsRight 17 = .ok (.getfield 23, 3) := by decide +kernel
theorem dX2_tenthsRight_20 : decode cX2_tenthsRight 20 = .ok (.iload_n 3, 1) := by decide +kernel
theorem dX2_tenthsRight_21 : decode cX2_tenthsRight 21 = .ok (.invokevirtual 27, 3) := by decide +kernel
theorem dX2_tenthsRight_24 : decode cX2_tenthsRight 24 = .ok (.iload 6, 2) := by decide +kernel
theorem dX2_tenthsRight_26 : decode cX2_tenthsRight 26 = .ok (.iadd, 1) := by decide +kernel
theorem dX2_tenthsRight_27 : decode cX2_tenthsRight 27 = .ok (.invokevirtual 40, 3) := by decide +kernel
theorem dX2_tenthsRight_30 : decode cX2_tenthsRight 30 = .ok (.iload_n 1, 1) := by decide +kernel
theorem dX2_tenthsRight_31 : decode cX2_tenthsRight 31 = .ok (.if_icmp .ne 33, 3) := by decide +kernel
theorem dX2_tenthsRight_34 : decode cX2_tenthsRight 34 = .ok (.lload 4, 2) := by decide +kernel
theorem dX2_tenthsRight_36 : decode cX2_tenthsRight 36 = .ok (.iload_n 3, 1) := by decide +kernel
theorem dX2_tenthsRight_37 : decode cX2_tenthsRight 37 = .ok (.iload 6, 2) := by decide +kernel
theorem dX2_tenthsRight_39 : decode cX2_tenthsRight 39 = .ok (.invokestatic 119, 3) := by decide +kernel
theorem dX2_tenthsRight_42 : decode cX2_tenthsRight 42 = .ok (.iload_n 2, 1) := by decide +kernel
theorem dX2_tenthsRight_43 : decode cX2_tenthsRight 43 = .ok (.iload 6, 2) := by decide +kernel
theorem dX2_tenthsRight_45 : decode cX2_tenthsRight 45 = .ok (.invokestatic 123, 3) := by decide +kernel
theorem dX2_tenthsRight_48 : decode cX2_tenthsRight 48 = .ok (.lmul, 1) := by decide +kernel
theorem dX2_tenthsRight_49 : decode cX2_tenthsRight 49 = .ok (.bipush 10, 2) := by decide +kernel
theorem dX2_tenthsRight_51 : decode cX2_tenthsRight 51 = .ok (.iload_n 2, 1) := by decide +kernel
theorem dX2_tenthsRight_52 : decode cX2_tenthsRight 52 = .ok (.isub, 1) := by decide +kernel
theorem dX2_tenthsRight_53 : decode cX2_tenthsRight 53 = .ok (.iload_n 3, 1) := by decide +kernel
theorem dX2_tenthsRight_54 : decode cX2_tenthsRight 54 = .ok (.iload 6, 2) := by decide +kernel
theorem dX2_tenthsRight_56 : decode cX2_tenthsRight 56 = .ok (.isub, 1) := by decide +kernel
theorem dX2_tenthsRight_57 : decode cX2_tenthsRight 57 = .ok (.invokestatic 123, 3) := by decide +kernel
theorem dX2_tenthsRight_60 : decode cX2_tenthsRight 60 = .ok (.lmul, 1) := by decide +kernel
theorem dX2_tenthsRight_61 : decode cX2_tenthsRight 61 = .ok (.ladd, 1) := by decide +kernel
theorem dX2_tenthsRight_62 : decode cX2_tenthsRight 62 = .ok (.lstore 4, 2) := by decide +kernel
theorem dX2_tenthsRight_64 : decode cX2_tenthsRight 64 = .ok (.iinc 6 1, 3) := by decide +kernel
theorem dX2_tenthsRight_67 : decode cX2_tenthsRight 67 = .ok (.goto (-61), 3) := by decide +kernel
theorem dX2_tenthsRight_70 : decode cX2_tenthsRight 70 = .ok (.lload 4, 2) := by decide +kernel
theorem dX2_tenthsRight_72 : decode cX2_tenthsRight 72 = .ok (.lreturn, 1) := by decide +kernel
theorem dX2_choices_0 : decode cX2_choices 0 = .ok (.lconst 1, 1) := by decide +kernel
theorem dX2_choices_1 : decode cX2_choices 1 = .ok (.lstore_n 2, 1) := by decide +kernel
theorem dX2_choices_2 : decode cX2_choices 2 = .ok (.iconst 1, 1) := by decide +kernel
theorem dX2_choices_3 : decode cX2_choices 3 = .ok (.istore 4, 2) := by decide +kernel
theorem dX2_choices_5 : decode cX2_choices 5 = .ok (.iload 4, 2) := by decide +kernel
theorem dX2_choices_7 : decode cX2_choices 7 = .ok (.iload_n 1, 1) := by decide +kernel
theorem dX2_choices_8 : decode cX2_choices 8 = .ok (.if_icmp .gt 23, 3) := by decide +kernel
theorem dX2_choices_11 : decode cX2_choices 11 = .ok (.lload_n 2, 1) := by decide +kernel
theorem dX2_choices_12 : decode cX2_choices 12 = .ok (.iload_n 0, 1) := by decide +kernel
theorem dX2_choices_13 : decode cX2_choices 13 = .ok (.iload_n 1, 1) := by decide +kernel
theorem dX2_choices_14 : decode cX2_choices 14 = .ok (.isub, 1) := by decide +kernel
theorem dX2_choices_15 : decode cX2_choices 15 = .ok (.iload 4, 2) := by decide +kernel
theorem dX2_choices_17 : decode cX2_choices 17 = .ok (.iadd, 1) := by decide +kernel
theorem dX2_choices_18 : decode cX2_choices 18 = .ok (.i2l, 1) := by decide +kernel
theorem dX2_choices_19 : decode cX2_choices 19 = .ok (.lmul, 1) := by decide +kernel
theorem dX2_choices_20 : decode cX2_choices 20 = .ok (.iload 4, 2) := by decide +kernel
theorem dX2_choices_22 : decode cX2_choices 22 = .ok (.i2l, 1) := by decide +kernel
theorem dX2_choices_23 : decode cX2_choices 23 = .ok (.ldiv, 1) := by decide +kernel
theorem dX2_choices_24 : decode cX2_choices 24 = .ok (.lstore_n 2, 1) := by decide +kernel
theorem dX2_choices_25 : decode cX2_choices 25 = .ok (.iinc 4 1, 3) := by decide +kernel
theorem dX2_choices_28 : decode cX2_choices 28 = .ok (.goto (-23), 3) := by decide +kernel
theorem dX2_choices_31 : decode cX2_choices 31 = .ok (.lload_n 2, 1) := by decide +kernel
theorem dX2_choices_32 : decode cX2_choices 32 = .ok (.lreturn, 1) := by decide +kernel
theorem dX2_power_0 : decode cX2_power 0 = .ok (.lconst 1, 1) := by decide +kernel
theorem dX2_power_1 : decode cX2_power 1 = .ok (.lstore_n 2, 1) := by decide +kernel
theorem dX2_power_2 : decode cX2_power 2 = .ok (.iconst 0, 1) := by decide +kernel
theorem dX2_power_3 : decode cX2_power 3 = .ok (.istore 4, 2) := by decide +kernel
theorem dX2_power_5 : decode cX2_power 5 = .ok (.iload 4, 2) := by decide +kernel
theorem dX2_power_7 : decode cX2_power 7 = .ok (.iload_n 1, 1) := by decide +kernel
theorem dX2_power_8 : decode cX2_power 8 = .ok (.if_icmp .ge 14, 3) := by decide +kernel
theorem dX2_power_11 : decode cX2_power 11 = .ok (.lload_n 2, 1) := by decide +kernel
theorem dX2_power_12 : decode cX2_power 12 = .ok (.iload_n 0, 1) := by decide +kernel
theorem dX2_power_13 : decode cX2_power 13 = .ok (.i2l, 1) := by decide +kernel
theorem dX2_power_14 : decode cX2_power 14 = .ok (.lmul, 1) := by decide +kernel
theorem dX2_power_15 : decode cX2_power 15 = .ok (.lstore_n 2, 1) := by decide +kernel
theorem dX2_power_16 : decode cX2_power 16 = .ok (.iinc 4 1, 3) := by decide +kernel
theorem dX2_power_19 : decode cX2_power 19 = .ok (.goto (-14), 3) := by decide +kernel
theorem dX2_power_22 : decode cX2_power 22 = .ok (.lload_n 2, 1) := by decide +kernel
theorem dX2_power_23 : decode cX2_power 23 = .ok (.lreturn, 1) := by decide +kernel
theorem dX2_divisorOfBoth_0 : decode cX2_divisorOfBoth 0 = .ok (.lload_n 0, 1) := by decide +kernel
theorem dX2_divisorOfBoth_1 : decode cX2_divisorOfBoth 1 = .ok (.lstore 4, 2) := by decide +kernel
theorem dX2_divisorOfBoth_3 : decode cX2_divisorOfBoth 3 = .ok (.lload_n 2, 1) := by decide +kernel
theorem dX2_divisorOfBoth_4 : decode cX2_divisorOfBoth 4 = .ok (.lstore 6, 2) := by decide +kernel
theorem dX2_divisorOfBoth_6 : decode cX2_divisorOfBoth 6 = .ok (.iconst 0, 1) := by decide +kernel
theorem dX2_divisorOfBoth_7 : decode cX2_divisorOfBoth 7 = .ok (.istore 8, 2) := by decide +kernel
theorem dX2_divisorOfBoth_9 : decode cX2_divisorOfBoth 9 = .ok (.iload 8, 2) := by decide +kernel
theorem dX2_divisorOfBoth_11 : decode cX2_divisorOfBoth 11 = .ok (.sipush 128, 3) := by decide +kernel
theorem dX2_divisorOfBoth_14 : decode cX2_divisorOfBoth 14 = .ok (.if_icmp .ge 31, 3) := by decide +kernel
theorem dX2_divisorOfBoth_17 : decode cX2_divisorOfBoth 17 = .ok (.lload 6, 2) := by decide +kernel
theorem dX2_divisorOfBoth_19 : decode cX2_divisorOfBoth 19 = .ok (.lconst 0, 1) := by decide +kernel
theorem dX2_divisorOfBoth_20 : decode cX2_divisorOfBoth 20 = .ok (.lcmp, 1) := by decide +kernel
theorem dX2_divisorOfBoth_21 : decode cX2_divisorOfBoth 21 = .ok (.ifCond .eq 24, 3) := by decide +kernel
theorem dX2_divisorOfBoth_24 : decode cX2_divisorOfBoth 24 = .ok (.lload 4, 2) := by decide +kernel
theorem dX2_divisorOfBoth_26 : decode cX2_divisorOfBoth 26 = .ok (.lload 6, 2) := by decide +kernel
theorem dX2_divisorOfBoth_28 : decode cX2_divisorOfBoth 28 = .ok (.lrem, 1) := by decide +kernel
theorem dX2_divisorOfBoth_29 : decode cX2_divisorOfBoth 29 = .ok (.lstore 9, 2) := by decide +kernel
theorem dX2_divisorOfBoth_31 : decode cX2_divisorOfBoth 31 = .ok (.lload 6, 2) := by decide +kernel
theorem dX2_divisorOfBoth_33 : decode cX2_divisorOfBoth 33 = .ok (.lstore 4, 2) := by decide +kernel
theorem dX2_divisorOfBoth_35 : decode cX2_divisorOfBoth 35 = .ok (.lload 9, 2) := by decide +kernel
theorem dX2_divisorOfBoth_37 : decode cX2_divisorOfBoth 37 = .ok (.lstore 6, 2) := by decide +kernel
theorem dX2_divisorOfBoth_39 : decode cX2_divisorOfBoth 39 = .ok (.iinc 8 1, 3) := by decide +kernel
theorem dX2_divisorOfBoth_42 : decode cX2_divisorOfBoth 42 = .ok (.goto (-33), 3) := by decide +kernel
theorem dX2_divisorOfBoth_45 : decode cX2_divisorOfBoth 45 = .ok (.lload 4, 2) := by decide +kernel
theorem dX2_divisorOfBoth_47 : decode cX2_divisorOfBoth 47 = .ok (.lreturn, 1) := by decide +kernel
theorem dX2_nightsByDraws_0 : decode cX2_nightsByDraws 0 = .ok (.iload_n 2, 1) := by decide +kernel
theorem dX2_nightsByDraws_1 : decode cX2_nightsByDraws 1 = .ok (.i2l, 1) := by decide +kernel
theorem dX2_nightsByDraws_2 : decode cX2_nightsByDraws 2 = .ok (.lstore 4, 2) := by decide +kernel
theorem dX2_nightsByDraws_4 : decode cX2_nightsByDraws 4 = .ok (.aload_n 0, 1) := by decide +kernel
theorem dX2_nightsByDraws_5 : decode cX2_nightsByDraws 5 = .ok (.getfield 23, 3) := by decide +kernel
theorem dX2_nightsByDraws_8 : decode cX2_nightsByDraws 8 = .ok (.getfield 49, 3) := by decide +kernel
theorem dX2_nightsByDraws_11 : decode cX2_nightsByDraws 11 = .ok (.istore 6, 2) := by decide +kernel
theorem dX2_nightsByDraws_13 : decode cX2_nightsByDraws 13 = .ok (.aload_n 0, 1) := by decide +kernel
theorem dX2_nightsByDraws_14 : decode cX2_nightsByDraws 14 = .ok (.invokevirtual 126, 3) := by decide +kernel
theorem dX2_nightsByDraws_17 : decode cX2_nightsByDraws 17 = .ok (.istore 7, 2) := by decide +kernel
theorem dX2_nightsByDraws_19 : decode cX2_nightsByDraws 19 = .ok (.iconst 0, 1) := by decide +kernel
theorem dX2_nightsByDraws_20 : decode cX2_nightsByDraws 20 = .ok (.istore 8, 2) := by decide +kernel
theorem dX2_nightsByDraws_22 : decode cX2_nightsByDraws 22 = .ok (.iconst 0, 1) := by decide +kernel
theorem dX2_nightsByDraws_23 : decode cX2_nightsByDraws 23 = .ok (.istore 9, 2) := by decide +kernel
theorem dX2_nightsByDraws_25 : decode cX2_nightsByDraws 25 = .ok (.iload 9, 2) := by decide +kernel
theorem dX2_nightsByDraws_27 : decode cX2_nightsByDraws 27 = .ok (.iload_n 1, 1) := by decide +kernel
theorem dX2_nightsByDraws_28 : decode cX2_nightsByDraws 28 = .ok (.if_icmp .ge 85, 3) := by decide +kernel
theorem dX2_nightsByDraws_31 : decode cX2_nightsByDraws 31 = .ok (.lload 4, 2) := by decide +kernel
theorem dX2_nightsByDraws_33 : decode cX2_nightsByDraws 33 = .ok (.ldc2_w 129, 3) := by decide +kernel
theorem dX2_nightsByDraws_36 : decode cX2_nightsByDraws 36 = .ok (.lmul, 1) := by decide +kernel
theorem dX2_nightsByDraws_37 : decode cX2_nightsByDraws 37 = .ok (.ldc2_w 131, 3) := by decide +kernel
theorem dX2_nightsByDraws_40 : decode cX2_nightsByDraws 40 = .ok (.lrem, 1) := by decide +kernel
theorem dX2_nightsByDraws_41 : decode cX2_nightsByDraws 41 = .ok (.lstore 4, 2) := by decide +kernel
theorem dX2_nightsByDraws_43 : decode cX2_nightsByDraws 43 = .ok (.lload 4, 2) := by decide +kernel
theorem dX2_nightsByDraws_45 : decode cX2_nightsByDraws 45 = .ok (.ldc2_w 133, 3) := by decide +kernel
theorem dX2_nightsByDraws_48 : decode cX2_nightsByDraws 48 = .ok (.lrem, 1) := by decide +kernel
theorem dX2_nightsByDraws_49 : decode cX2_nightsByDraws 49 = .ok (.lconst 0, 1) := by decide +kernel
theorem dX2_nightsByDraws_50 : decode cX2_nightsByDraws 50 = .ok (.lcmp, 1) := by decide +kernel
theorem dX2_nightsByDraws_51 : decode cX2_nightsByDraws 51 = .ok (.ifCond .ne 25, 3) := by decide +kernel
theorem dX2_nightsByDraws_54 : decode cX2_nightsByDraws 54 = .ok (.aload_n 0, 1) := by decide +kernel
theorem dX2_nightsByDraws_55 : decode cX2_nightsByDraws 55 = .ok (.getfield 23, 3) := by decide +kernel
theorem dX2_nightsByDraws_58 : decode cX2_nightsByDraws 58 = .ok (.iload 6, 2) := by decide +kernel
theorem dX2_nightsByDraws_60 : decode cX2_nightsByDraws 60 = .ok (.aload_n 0, 1) := by decide +kernel
theorem dX2_nightsByDraws_61 : decode cX2_nightsByDraws 61 = .ok (.getfield 23, 3) := by decide +kernel
theorem dX2_nightsByDraws_64 : decode cX2_nightsByDraws 64 = .ok (.lload 4, 2) := by decide +kernel
theorem dX2_nightsByDraws_66 : decode cX2_nightsByDraws 66 = .ok (.l2i, 1) := by decide +kernel
theorem dX2_nightsByDraws_67 : decode cX2_nightsByDraws 67 = .ok (.invokevirtual 40, 3) := by decide +kernel
theorem dX2_nightsByDraws_70 : decode cX2_nightsByDraws 70 = .ok (.iadd, 1) := by decide +kernel
theorem dX2_nightsByDraws_71 : decode cX2_nightsByDraws 71 = .ok (.invokevirtual 40, 3) := by decide +kernel
theorem dX2_nightsByDraws_74 : decode cX2_nightsByDraws 74 = .ok (.istore 6, 2) := by decide +kernel
theorem dX2_nightsByDraws_76 : decode cX2_nightsByDraws 76 = .ok (.aload_n 0, 1) := by decide +kernel
theorem dX2_nightsByDraws_77 : decode cX2_nightsByDraws 77 = .ok (.getfield 23, 3) := by decide +kernel
theorem dX2_nightsByDraws_80 : decode cX2_nightsByDraws 80 = .ok (.iload 6, 2) := by decide +kernel
theorem dX2_nightsByDraws_82 : decode cX2_nightsByDraws 82 = .ok (.aload_n 0, 1) := by decide +kernel
theorem dX2_nightsByDraws_83 : decode cX2_nightsByDraws 83 = .ok (.getfield 23, 3) := by decide +kernel
theorem dX2_nightsByDraws_86 : decode cX2_nightsByDraws 86 = .ok (.getfield 96, 3) := by decide +kernel
theorem dX2_nightsByDraws_89 : decode cX2_nightsByDraws 89 = .ok (.iadd, 1) := by decide +kernel
theorem dX2_nightsByDraws_90 : decode cX2_nightsByDraws 90 = .ok (.invokevirtual 40, 3) := by decide +kernel
theorem dX2_nightsByDraws_93 : decode cX2_nightsByDraws 93 = .ok (.istore 6, 2) := by decide +kernel
theorem dX2_nightsByDraws_95 : decode cX2_nightsByDraws 95 = .ok (.iload 8, 2) := by decide +kernel
theorem dX2_nightsByDraws_97 : decode cX2_nightsByDraws 97 = .ok (.iload 7, 2) := by decide +kernel
theorem dX2_nightsByDraws_99 : decode cX2_nightsByDraws 99 = .ok (.iload 6, 2) := by decide +kernel
theorem dX2_nightsByDraws_101 : decode cX2_nightsByDraws 101 = .ok (.ishr, 1) := by decide +kernel
theorem dX2_nightsByDraws_102 : decode cX2_nightsByDraws 102 = .ok (.iconst 1, 1) := by decide +kernel
theorem dX2_nightsByDraws_103 : decode cX2_nightsByDraws 103 = .ok (.iand, 1) := by decide +kernel
theorem dX2_nightsByDraws_104 : decode cX2_nightsByDraws 104 = .ok (.iadd, 1) := by decide +kernel
theorem dX2_nightsByDraws_105 : decode cX2_nightsByDraws 105 = .ok (.istore 8, 2) := by decide +kernel
theorem dX2_nightsByDraws_107 : decode cX2_nightsByDraws 107 = .ok (.iinc 9 1, 3) := by decide +kernel
theorem dX2_nightsByDraws_110 : decode cX2_nightsByDraws 110 = .ok (.goto (-85), 3) := by decide +kernel
theorem dX2_nightsByDraws_113 : decode cX2_nightsByDraws 113 = .ok (.iload_n 3, 1) := by decide +kernel
theorem dX2_nightsByDraws_114 : decode cX2_nightsByDraws 114 = .ok (.ifCond .eq 8, 3) := by decide +kernel
theorem dX2_nightsByDraws_117 : decode cX2_nightsByDraws 117 = .ok (.iload 8, 2) := by decide +kernel
theorem dX2_nightsByDraws_119 : decode cX2_nightsByDraws 119 = .ok (.goto 5, 3) := by decide +kernel
theorem dX2_nightsByDraws_122 : decode cX2_nightsByDraws 122 = .ok (.iload 6, 2) := by decide +kernel
theorem dX2_nightsByDraws_124 : decode cX2_nightsByDraws 124 = .ok (.ireturn, 1) := by decide +kernel
theorem dX2_biasesOfAll_0 : decode cX2_biasesOfAll 0 = .ok (.iconst 0, 1) := by decide +kernel
theorem dX2_biasesOfAll_1 : decode cX2_biasesOfAll 1 = .ok (.istore_n 1, 1) := by decide +kernel
theorem dX2_biasesOfAll_2 : decode cX2_biasesOfAll 2 = .ok (.iconst 0, 1) := by decide +kernel
theorem dX2_biasesOfAll_3 : decode cX2_biasesOfAll 3 = .ok (.istore_n 2, 1) := by decide +kernel
theorem dX2_biasesOfAll_4 : decode cX2_biasesOfAll 4 = .ok (.iload_n 2, 1) := by decide +kernel
theorem dX2_biasesOfAll_5 : decode cX2_biasesOfAll 5 = .ok (.aload_n 0, 1) := by decide +kernel
theorem dX2_biasesOfAll_6 : decode cX2_biasesOfAll 6 = .ok (.getfield 23, 3) := by decide +kernel
theorem dX2_biasesOfAll_9 : decode cX2_biasesOfAll 9 = .ok (.getfield 43, 3) := by decide +kernel
theorem dX2_biasesOfAll_12 : decode cX2_biasesOfAll 12 = .ok (.if_icmp .ge 22, 3) := by decide +kernel
theorem dX2_biasesOfAll_15 : decode cX2_biasesOfAll 15 = .ok (.iload_n 1, 1) := by decide +kernel
theorem dX2_biasesOfAll_16 : decode cX2_biasesOfAll 16 = .ok (.iconst 1, 1) := by decide +kernel
theorem dX2_biasesOfAll_17 : decode cX2_biasesOfAll 17 = .ok (.aload_n 0, 1) := by decide +kernel
theorem dX2_biasesOfAll_18 : decode cX2_biasesOfAll 18 = .ok (.getfield 23, 3) := by decide +kernel
theorem dX2_biasesOfAll_21 : decode cX2_biasesOfAll 21 = .ok (.iload_n 2, 1) := by decide +kernel
theorem dX2_biasesOfAll_22 : decode cX2_biasesOfAll 22 = .ok (.invokevirtual 56, 3) := by decide +kernel
theorem dX2_biasesOfAll_25 : decode cX2_biasesOfAll 25 = .ok (.ishl, 1) := by decide +kernel
theorem dX2_biasesOfAll_26 : decode cX2_biasesOfAll 26 = .ok (.ior, 1) := by decide +kernel
theorem dX2_biasesOfAll_27 : decode cX2_biasesOfAll 27 = .ok (.istore_n 1, 1) := by decide +kernel
theorem dX2_biasesOfAll_28 : decode cX2_biasesOfAll 28 = .ok (.iinc 2 1, 3) := by decide +kernel
theorem dX2_biasesOfAll_31 : decode cX2_biasesOfAll 31 = .ok (.goto (-27), 3) := by decide +kernel
theorem dX2_biasesOfAll_34 : decode cX2_biasesOfAll 34 = .ok (.iload_n 1, 1) := by decide +kernel
theorem dX2_biasesOfAll_35 : decode cX2_biasesOfAll 35 = .ok (.ireturn, 1) := by decide +kernel
theorem dX3_init_0 : decode cX3_init 0 = .ok (.aload_n 0, 1) := by decide +kernel
theorem dX3_init_1 : decode cX3_init 1 = .ok (.invokespecial 3, 3) := by decide +kernel
theorem dX3_init_4 : decode cX3_init 4 = .ok (.aload_n 0, 1) := by decide +kernel
theorem dX3_init_5 : decode cX3_init 5 = .ok (.iconst 4, 1) := by decide +kernel
theorem dX3_init_6 : decode cX3_init 6 = .ok (.newarray .int, 2) := by decide +kernel
theorem dX3_init_8 : decode cX3_init 8 = .ok (.putfield 11, 3) := by decide +kernel
theorem dX3_init_11 : decode cX3_init 11 = .ok (.aload_n 0, 1) := by decide +kernel
theorem dX3_init_12 : decode cX3_init 12 = .ok (.bipush 32, 2) := by decide +kernel
theorem dX3_init_14 : decode cX3_init 14 = .ok (.newarray .int, 2) := by decide +kernel
theorem dX3_init_16 : decode cX3_init 16 = .ok (.putfield 15, 3) := by decide +kernel
theorem dX3_init_19 : decode cX3_init 19 = .ok (.aload_n 0, 1) := by decide +kernel
theorem dX3_init_20 : decode cX3_init 20 = .ok (.iconst 5, 1) := by decide +kernel
theorem dX3_init_21 : decode cX3_init 21 = .ok (.newarray .int, 2) := by decide +kernel
theorem dX3_init_23 : decode cX3_init 23 = .ok (.putfield 18, 3) := by decide +kernel
theorem dX3_init_26 : decode cX3_init 26 = .ok (.aload_n 0, 1) := by decide +kernel
theorem dX3_init_27 : decode cX3_init 27 = .ok (.iconst 5, 1) := by decide +kernel
theorem dX3_init_28 : decode cX3_init 28 = .ok (.newarray .int, 2) := by decide +kernel
theorem dX3_init_30 : decode cX3_init 30 = .ok (.putfield 21, 3) := by decide +kernel
theorem dX3_init_33 : decode cX3_init 33 = .ok (.aload_n 0, 1) := by decide +kernel
theorem dX3_init_34 : decode cX3_init 34 = .ok (.iconst 5, 1) := by decide +kernel
theorem dX3_init_35 : decode cX3_init 35 = .ok (.newarray .int, 2) := by decide +kernel
theorem dX3_init_37 : decode cX3_init 37 = .ok (.putfield 24, 3) := by decide +kernel
theorem dX3_init_40 : decode cX3_init 40 = .ok (.return_, 1) := by decide +kernel
theorem dX3_isTold_0 : decode cX3_isTold 0 = .ok (.aload_n 0, 1) := by decide +kernel
theorem dX3_isTold_1 : decode cX3_isTold 1 = .ok (.getfield 27, 3) := by decide +kernel
theorem dX3_isTold_4 : decode cX3_isTold 4 = .ok (.ifCond .le 7, 3) := by decide +kernel
theorem dX3_isTold_7 : decode cX3_isTold 7 = .ok (.iconst 1, 1) := by decide +kernel
theorem dX3_isTold_8 : decode cX3_isTold 8 = .ok (.goto 4, 3) := by decide +kernel
theorem dX3_isTold_11 : decode cX3_isTold 11 = .ok (.iconst 0, 1) := by decide +kernel
theorem dX3_isTold_12 : decode cX3_isTold 12 = .ok (.ireturn, 1) := by decide +kernel
theorem dX3_hasPiece_0 : decode cX3_hasPiece 0 = .ok (.iload_n 1, 1) := by decide +kernel
theorem dX3_hasPiece_1 : decode cX3_hasPiece 1 = .ok (.ifCond .lt 15, 3) := by decide +kernel
theorem dX3_hasPiece_4 : decode cX3_hasPiece 4 = .ok (.iload_n 1, 1) := by decide +kernel
theorem dX3_hasPiece_5 : decode cX3_hasPiece 5 = .ok (.aload_n 0, 1) := by decide +kernel
theorem dX3_hasPiece_6 : decode cX3_hasPiece 6 = .ok (.getfield 31, 3) := by decide +kernel
theorem dX3_hasPiece_9 : decode cX3_hasPiece 9 = .ok (.if_icmp .ge 7, 3) := by decide +kernel
theorem dX3_hasPiece_12 : decode cX3_hasPiece 12 = .ok (.iconst 1, 1) := by decide +kernel
theorem dX3_hasPiece_13 : decode cX3_hasPiece 13 = .ok (.goto 4, 3) := by decide +kernel
theorem dX3_hasPiece_16 : decode cX3_hasPiece 16 = .ok (.iconst 0, 1) := by decide +kernel
theorem dX3_hasPiece_17 : decode cX3_hasPiece 17 = .ok (.ireturn, 1) := by decide +kernel
theorem dX3_hasPupil_0 : decode cX3_hasPupil 0 = .ok (.iload_n 1, 1) := by decide +kernel
theorem dX3_hasPupil_1 : decode cX3_hasPupil 1 = .ok (.ifCond .lt 15, 3) := by decide +kernel
theorem dX3_hasPupil_4 : decode cX3_hasPupil 4 = .ok (.iload_n 1, 1) := by decide +kernel
theorem dX3_hasPupil_5 : decode cX3_hasPupil 5 = .ok (.aload_n 0, 1) := by decide +kernel
theorem dX3_hasPupil_6 : decode cX3_hasPupil 6 = .ok (.getfield 34, 3) := by decide +kernel
theorem dX3_hasPupil_9 : decode cX3_hasPupil 9 = .ok (.if_icmp .ge 7, 3) := by decide +kernel
theorem dX3_hasPupil_12 : decode cX3_hasPupil 12 = .ok (.iconst 1, 1) := by decide +kernel
theorem dX3_hasPupil_13 : decode cX3_hasPupil 13 = .ok (.goto 4, 3) := by decide +kernel
theorem dX3_hasPupil_16 : decode cX3_hasPupil 16 = .ok (.iconst 0, 1) := by decide +kernel
theorem dX3_hasPupil_17 : decode cX3_hasPupil 17 = .ok (.ireturn, 1) := by decide +kernel
theorem dX3_become_0 : decode cX3_become 0 = .ok (.aload_n 0, 1) := by decide +kernel
theorem dX3_become_1 : decode cX3_become 1 = .ok (.aload_n 1, 1) := by decide +kernel
theorem dX3_become_2 : decode cX3_become 2 = .ok (.getfield 27, 3) := by decide +kernel
theorem dX3_become_5 : decode cX3_become 5 = .ok (.putfield 27, 3) := by decide +kernel
theorem dX3_become_8 : decode cX3_become 8 = .ok (.aload_n 0, 1) := by decide +kernel
theorem dX3_become_9 : decode cX3_become 9 = .ok (.aload_n 1, 1) := by decide +kernel
theorem dX3_become_10 : decode cX3_become 10 = .ok (.getfield 37, 3) := by decide +kernel
theorem dX3_become_13 : decode cX3_become 13 = .ok (.putfield 37, 3) := by decide +kernel
theorem dX3_become_16 : decode cX3_become 16 = .ok (.aload_n 0, 1) := by decide +kernel
theorem dX3_become_17 : decode cX3_become 17 = .ok (.aload_n 1, 1) := by decide +kernel
theorem dX3_become_18 : decode cX3_become 18 = .ok (.getfield 40, 3) := by decide +kernel
theorem dX3_become_21 : decode cX3_become 21 = .ok (.putfield 40, 3) := by decide +kernel
theorem dX3_become_24 : decode cX3_become 24 = .ok (.aload_n 0, 1) := by decide +kernel
theorem dX3_become_25 : decode cX3_become 25 = .ok (.aload_n 1, 1) := by decide +kernel
theorem dX3_become_26 : decode cX3_become 26 = .ok (.getfield 43, 3) := by decide +kernel
theorem dX3_become_29 : decode cX3_become 29 = .ok (.putfield 43, 3) := by decide +kernel
theorem dX3_become_32 : decode cX3_become 32 = .ok (.aload_n 0, 1) := by decide +kernel
theorem dX3_become_33 : decode cX3_become 33 = .ok (.aload_n 1, 1) := by decide +kernel
theorem dX3_become_34 : decode cX3_become 34 = .ok (.getfield 31, 3) := by decide +kernel
theorem dX3_become_37 : decode cX3_become 37 = .ok (.putfield 31, 3) := by decide +kernel
theorem dX3_become_40 : decode cX3_become 40 = .ok (.aload_n 0, 1) := by decide +kernel
theorem dX3_become_41 : decode cX3_become 41 = .ok (.aload_n 1, 1) := by decide +kernel
theorem dX3_become_42 : decode cX3_become 42 = .ok (.getfield 34, 3) := by decide +kernel
theorem dX3_become_45 : decode cX3_become 45 = .ok (.putfield 34, 3) := by decide +kernel
theorem dX3_become_48 : decode cX3_become 48 = .ok (.aload_n 1, 1) := by decide +kernel
theorem dX3_become_49 : decode cX3_become 49 = .ok (.getfield 11, 3) := by decide +kernel
theorem dX3_become_52 : decode cX3_become 52 = .ok (.iconst 0, 1) := by decide +kernel
theorem dX3_become_53 : decode cX3_become 53 = .ok (.aload_n 0, 1) := by decide +kernel
theorem dX3_become_54 : decode cX3_become 54 = .ok (.getfield 11, 3) := by decide +kernel
theorem dX3_become_57 : decode cX3_become 57 = .ok (.iconst 0, 1) := by decide +kernel
theorem dX3_become_58 : decode cX3_become 58 = .ok (.iconst 4, 1) := by decide +kernel
theorem dX3_become_59 : decode cX3_become 59 = .ok (.invokestatic 46, 3) := by decide +kernel
theorem dX3_become_62 : decode cX3_become 62 = .ok (.aload_n 1, 1) := by decide +kernel
theorem dX3_become_63 : decode cX3_become 63 = .ok (.getfield 15, 3) := by decide +kernel
theorem dX3_become_66 : decode cX3_become 66 = .ok (.iconst 0, 1) := by decide +kernel
theorem dX3_become_67 : decode cX3_become 67 = .ok (.aload_n 0, 1) := by decide +kernel
theorem dX3_become_68 : decode cX3_become 68 = .ok (.getfield 15, 3) := by decide +kernel
theorem dX3_become_71 : decode cX3_become 71 = .ok (.iconst 0, 1) := by decide +kernel
theorem dX3_become_72 : decode cX3_become 72 = .ok (.bipush 32, 2) := by decide +kernel
theorem dX3_become_74 : decode cX3_become 74 = .ok (.invokestatic 46, 3) := by decide +kernel
theorem dX3_become_77 : decode cX3_become 77 = .ok (.aload_n 1, 1) := by decide +kernel
theorem dX3_become_78 : decode cX3_become 78 = .ok (.getfield 18, 3) := by decide +kernel
theorem dX3_become_81 : decode cX3_become 81 = .ok (.iconst 0, 1) := by decide +kernel
theorem dX3_become_82 : decode cX3_become 82 = .ok (.aload_n 0, 1) := by decide +kernel
theorem dX3_become_83 : decode cX3_become 83 = .ok (.getfield 18, 3) := by decide +kernel
theorem dX3_become_86 : decode cX3_become 86 = .ok (.iconst 0, 1) := by decide +kernel
theorem dX3_become_87 : decode cX3_become 87 = .ok (.iconst 5, 1) := by decide +kernel
theorem dX3_become_88 : decode cX3_become 88 = .ok (.invokestatic 46, 3) := by decide +kernel
theorem dX3_become_91 : decode cX3_become 91 = .ok (.aload_n 1, 1) := by decide +kernel
theorem dX3_become_92 : decode cX3_become 92 = .ok (.getfield 21, 3) := by decide +kernel
theorem dX3_become_95 : decode cX3_become 95 = .ok (.iconst 0, 1) := by decide +kernel
theorem dX3_become_96 : decode cX3_become 96 = .ok (.aload_n 0, 1) := by decide +kernel
theorem dX3_become_97 : decode cX3_become 97 = .ok (.getfield 21, 3) := by decide +kernel
theorem dX3_become_100 : decode cX3_become 100 = .ok (.iconst 0, 1) := by decide +kernel
theorem dX3_become_101 : decode cX3_become 101 = .ok (.iconst 5, 1) := by decide +kernel
theorem dX3_become_102 : decode cX3_become 102 = .ok (.invokestatic 46, 3) := by decide +kernel
theorem dX3_become_105 : decode cX3_become 105 = .ok (.aload_n 1, 1) := by decide +kernel
theorem dX3_become_106 : decode cX3_become 106 = .ok (.getfield 24, 3) := by decide +kernel
theorem dX3_become_109 : decode cX3_become 109 = .ok (.iconst 0, 1) := by decide +kernel
theorem dX3_become_110 : decode cX3_become 110 = .ok (.aload_n 0, 1) := by decide +kernel
theorem dX3_become_111 : decode cX3_become 111 = .ok (.getfield 24, 3) := by decide +kernel
theorem dX3_become_114 : decode cX3_become 114 = .ok (.iconst 0, 1) := by decide +kernel
theorem dX3_become_115 : decode cX3_become 115 = .ok (.iconst 5, 1) := by decide +kernel
theorem dX3_become_116 : decode cX3_become 116 = .ok (.invokestatic 46, 3) := by decide +kernel
theorem dX3_become_119 : decode cX3_become 119 = .ok (.return_, 1) := by decide +kernel
theorem dX3_around_0 : decode cX3_around 0 = .ok (.aload_n 0, 1) := by decide +kernel
theorem dX3_around_1 : decode cX3_around 1 = .ok (.getfield 27, 3) := by decide +kernel
theorem dX3_around_4 : decode cX3_around 4 = .ok (.ifCond .gt 5, 3) := by decide +kernel
theorem dX3_around_7 : decode cX3_around 7 = .ok (.iconst 0, 1) := by decide +kernel
