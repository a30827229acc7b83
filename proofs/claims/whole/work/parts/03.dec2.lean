theorem dX3_around_8 : decode cX3_around 8 = .ok (.ireturn, 1) := by decide +kernel
theorem dX3_around_9 : decode cX3_around 9 = .ok (.iload_n 1, 1) := by decide +kernel
theorem dX3_around_10 : decode cX3_around 10 = .ok (.aload_n 0, 1) := by decide +kernel
theorem dX3_around_11 : decode cX3_around 11 = .ok (.getfield 27, 3) := by decide +kernel
theorem dX3_around_14 : decode cX3_around 14 = .ok (.irem, 1) := by decide +kernel
theorem dX3_around_15 : decode cX3_around 15 = .ok (.istore_n 2, 1) := by decide +kernel
theorem dX3_around_16 : decode cX3_around 16 = .ok (.iload_n 2, 1) := by decide +kernel
theorem dX3_around_17 : decode cX3_around 17 = .ok (.ifCond .ge 12, 3) := by decide +kernel
theorem dX3_around_20 : decode cX3_around 20 = .ok (.iload_n 2, 1) := by decide +kernel
theorem dX3_around_21 : decode cX3_around 21 = .ok (.aload_n 0, 1) := by decide +kernel
theorem dX3_around_22 : decode cX3_around 22 = .ok (.getfield 27, 3) := by decide +kernel
theorem dX3_around_25 : decode cX3_around 25 = .ok (.iadd, 1) := by decide +kernel
theorem dX3_around_26 : decode cX3_around 26 = .ok (.goto 4, 3) := by decide +kernel
theorem dX3_around_29 : decode cX3_around 29 = .ok (.iload_n 2, 1) := by decide +kernel
theorem dX3_around_30 : decode cX3_around 30 = .ok (.ireturn, 1) := by decide +kernel
theorem dX3_shiftBehind_0 : decode cX3_shiftBehind 0 = .ok (.aload_n 0, 1) := by decide +kernel
theorem dX3_shiftBehind_1 : decode cX3_shiftBehind 1 = .ok (.aload_n 0, 1) := by decide +kernel
theorem dX3_shiftBehind_2 : decode cX3_shiftBehind 2 = .ok (.getfield 40, 3) := by decide +kernel
theorem dX3_shiftBehind_5 : decode cX3_shiftBehind 5 = .ok (.iload_n 1, 1) := by decide +kernel
theorem dX3_shiftBehind_6 : decode cX3_shiftBehind 6 = .ok (.aload_n 0, 1) := by decide +kernel
theorem dX3_shiftBehind_7 : decode cX3_shiftBehind 7 = .ok (.getfield 37, 3) := by decide +kernel
theorem dX3_shiftBehind_10 : decode cX3_shiftBehind 10 = .ok (.imul, 1) := by decide +kernel
theorem dX3_shiftBehind_11 : decode cX3_shiftBehind 11 = .ok (.iadd, 1) := by decide +kernel
theorem dX3_shiftBehind_12 : decode cX3_shiftBehind 12 = .ok (.invokevirtual 52, 3) := by decide +kernel
theorem dX3_shiftBehind_15 : decode cX3_shiftBehind 15 = .ok (.ireturn, 1) := by decide +kernel
theorem dX3_stringOf_0 : decode cX3_stringOf 0 = .ok (.aload_n 0, 1) := by decide +kernel
theorem dX3_stringOf_1 : decode cX3_stringOf 1 = .ok (.getfield 15, 3) := by decide +kernel
theorem dX3_stringOf_4 : decode cX3_stringOf 4 = .ok (.iload_n 1, 1) := by decide +kernel
theorem dX3_stringOf_5 : decode cX3_stringOf 5 = .ok (.bipush 8, 2) := by decide +kernel
theorem dX3_stringOf_7 : decode cX3_stringOf 7 = .ok (.imul, 1) := by decide +kernel
theorem dX3_stringOf_8 : decode cX3_stringOf 8 = .ok (.iload_n 2, 1) := by decide +kernel
theorem dX3_stringOf_9 : decode cX3_stringOf 9 = .ok (.iadd, 1) := by decide +kernel
theorem dX3_stringOf_10 : decode cX3_stringOf 10 = .ok (.iaload, 1) := by decide +kernel
theorem dX3_stringOf_11 : decode cX3_stringOf 11 = .ok (.ireturn, 1) := by decide +kernel
theorem dX3_biasOf_0 : decode cX3_biasOf 0 = .ok (.aload_n 0, 1) := by decide +kernel
theorem dX3_biasOf_1 : decode cX3_biasOf 1 = .ok (.aload_n 0, 1) := by decide +kernel
theorem dX3_biasOf_2 : decode cX3_biasOf 2 = .ok (.getfield 18, 3) := by decide +kernel
theorem dX3_biasOf_5 : decode cX3_biasOf 5 = .ok (.iload_n 1, 1) := by decide +kernel
theorem dX3_biasOf_6 : decode cX3_biasOf 6 = .ok (.iaload, 1) := by decide +kernel
theorem dX3_biasOf_7 : decode cX3_biasOf 7 = .ok (.aload_n 0, 1) := by decide +kernel
theorem dX3_biasOf_8 : decode cX3_biasOf 8 = .ok (.getfield 21, 3) := by decide +kernel
theorem dX3_biasOf_11 : decode cX3_biasOf 11 = .ok (.iload_n 1, 1) := by decide +kernel
theorem dX3_biasOf_12 : decode cX3_biasOf 12 = .ok (.iaload, 1) := by decide +kernel
theorem dX3_biasOf_13 : decode cX3_biasOf 13 = .ok (.invokevirtual 56, 3) := by decide +kernel
theorem dX3_biasOf_16 : decode cX3_biasOf 16 = .ok (.ireturn, 1) := by decide +kernel
theorem dX3_biasAs_0 : decode cX3_biasAs 0 = .ok (.iload_n 1, 1) := by decide +kernel
theorem dX3_biasAs_1 : decode cX3_biasAs 1 = .ok (.tableswitch 67 2 5 #[31, 44, 52, 59], 31) := by decide +kernel
theorem dX3_biasAs_32 : decode cX3_biasAs 32 = .ok (.aload_n 0, 1) := by decide +kernel
theorem dX3_biasAs_33 : decode cX3_biasAs 33 = .ok (.iload_n 2, 1) := by decide +kernel
theorem dX3_biasAs_34 : decode cX3_biasAs 34 = .ok (.iconst 2, 1) := by decide +kernel
theorem dX3_biasAs_35 : decode cX3_biasAs 35 = .ok (.aload_n 0, 1) := by decide +kernel
theorem dX3_biasAs_36 : decode cX3_biasAs 36 = .ok (.getfield 37, 3) := by decide +kernel
theorem dX3_biasAs_39 : decode cX3_biasAs 39 = .ok (.imul, 1) := by decide +kernel
theorem dX3_biasAs_40 : decode cX3_biasAs 40 = .ok (.iadd, 1) := by decide +kernel
theorem dX3_biasAs_41 : decode cX3_biasAs 41 = .ok (.invokevirtual 52, 3) := by decide +kernel
theorem dX3_biasAs_44 : decode cX3_biasAs 44 = .ok (.ireturn, 1) := by decide +kernel
theorem dX3_biasAs_45 : decode cX3_biasAs 45 = .ok (.aload_n 0, 1) := by decide +kernel
theorem dX3_biasAs_46 : decode cX3_biasAs 46 = .ok (.iload_n 2, 1) := by decide +kernel
theorem dX3_biasAs_47 : decode cX3_biasAs 47 = .ok (.iconst 2, 1) := by decide +kernel
theorem dX3_biasAs_48 : decode cX3_biasAs 48 = .ok (.isub, 1) := by decide +kernel
theorem dX3_biasAs_49 : decode cX3_biasAs 49 = .ok (.invokevirtual 52, 3) := by decide +kernel
theorem dX3_biasAs_52 : decode cX3_biasAs 52 = .ok (.ireturn, 1) := by decide +kernel
theorem dX3_biasAs_53 : decode cX3_biasAs 53 = .ok (.aload_n 0, 1) := by decide +kernel
theorem dX3_biasAs_54 : decode cX3_biasAs 54 = .ok (.iload_n 2, 1) := by decide +kernel
theorem dX3_biasAs_55 : decode cX3_biasAs 55 = .ok (.ineg, 1) := by decide +kernel
theorem dX3_biasAs_56 : decode cX3_biasAs 56 = .ok (.invokevirtual 52, 3) := by decide +kernel
theorem dX3_biasAs_59 : decode cX3_biasAs 59 = .ok (.ireturn, 1) := by decide +kernel
theorem dX3_biasAs_60 : decode cX3_biasAs 60 = .ok (.aload_n 0, 1) := by decide +kernel
theorem dX3_biasAs_61 : decode cX3_biasAs 61 = .ok (.iconst 1, 1) := by decide +kernel
theorem dX3_biasAs_62 : decode cX3_biasAs 62 = .ok (.iload_n 2, 1) := by decide +kernel
theorem dX3_biasAs_63 : decode cX3_biasAs 63 = .ok (.isub, 1) := by decide +kernel
theorem dX3_biasAs_64 : decode cX3_biasAs 64 = .ok (.invokevirtual 52, 3) := by decide +kernel
theorem dX3_biasAs_67 : decode cX3_biasAs 67 = .ok (.ireturn, 1) := by decide +kernel
theorem dX3_biasAs_68 : decode cX3_biasAs 68 = .ok (.aload_n 0, 1) := by decide +kernel
theorem dX3_biasAs_69 : decode cX3_biasAs 69 = .ok (.iload_n 2, 1) := by decide +kernel
theorem dX3_biasAs_70 : decode cX3_biasAs 70 = .ok (.invokevirtual 52, 3) := by decide +kernel
theorem dX3_biasAs_73 : decode cX3_biasAs 73 = .ok (.ireturn, 1) := by decide +kernel
theorem dX3_stringHeard_0 : decode cX3_stringHeard 0 = .ok (.aload_n 0, 1) := by decide +kernel
theorem dX3_stringHeard_1 : decode cX3_stringHeard 1 = .ok (.iload_n 1, 1) := by decide +kernel
theorem dX3_stringHeard_2 : decode cX3_stringHeard 2 = .ok (.iload_n 2, 1) := by decide +kernel
theorem dX3_stringHeard_3 : decode cX3_stringHeard 3 = .ok (.isub, 1) := by decide +kernel
theorem dX3_stringHeard_4 : decode cX3_stringHeard 4 = .ok (.aload_n 0, 1) := by decide +kernel
theorem dX3_stringHeard_5 : decode cX3_stringHeard 5 = .ok (.getfield 40, 3) := by decide +kernel
theorem dX3_stringHeard_8 : decode cX3_stringHeard 8 = .ok (.iadd, 1) := by decide +kernel
theorem dX3_stringHeard_9 : decode cX3_stringHeard 9 = .ok (.invokevirtual 52, 3) := by decide +kernel
theorem dX3_stringHeard_12 : decode cX3_stringHeard 12 = .ok (.ireturn, 1) := by decide +kernel
theorem dX3_reaches_0 : decode cX3_reaches 0 = .ok (.aload_n 0, 1) := by decide +kernel
theorem dX3_reaches_1 : decode cX3_reaches 1 = .ok (.iload_n 1, 1) := by decide +kernel
theorem dX3_reaches_2 : decode cX3_reaches 2 = .ok (.invokevirtual 60, 3) := by decide +kernel
theorem dX3_reaches_5 : decode cX3_reaches 5 = .ok (.istore_n 3, 1) := by decide +kernel
theorem dX3_reaches_6 : decode cX3_reaches 6 = .ok (.aload_n 0, 1) := by decide +kernel
theorem dX3_reaches_7 : decode cX3_reaches 7 = .ok (.iload_n 3, 1) := by decide +kernel
theorem dX3_reaches_8 : decode cX3_reaches 8 = .ok (.iload_n 2, 1) := by decide +kernel
theorem dX3_reaches_9 : decode cX3_reaches 9 = .ok (.invokevirtual 63, 3) := by decide +kernel
theorem dX3_reaches_12 : decode cX3_reaches 12 = .ok (.aload_n 0, 1) := by decide +kernel
theorem dX3_reaches_13 : decode cX3_reaches 13 = .ok (.iload_n 3, 1) := by decide +kernel
theorem dX3_reaches_14 : decode cX3_reaches 14 = .ok (.iload_n 2, 1) := by decide +kernel
theorem dX3_reaches_15 : decode cX3_reaches 15 = .ok (.invokevirtual 66, 3) := by decide +kernel
theorem dX3_reaches_18 : decode cX3_reaches 18 = .ok (.isub, 1) := by decide +kernel
theorem dX3_reaches_19 : decode cX3_reaches 19 = .ok (.aload_n 0, 1) := by decide +kernel
theorem dX3_reaches_20 : decode cX3_reaches 20 = .ok (.getfield 24, 3) := by decide +kernel
theorem dX3_reaches_23 : decode cX3_reaches 23 = .ok (.iload_n 1, 1) := by decide +kernel
theorem dX3_reaches_24 : decode cX3_reaches 24 = .ok (.iaload, 1) := by decide +kernel
theorem dX3_reaches_25 : decode cX3_reaches 25 = .ok (.if_icmp .ge 7, 3) := by decide +kernel
theorem dX3_reaches_28 : decode cX3_reaches 28 = .ok (.iconst 1, 1) := by decide +kernel
theorem dX3_reaches_29 : decode cX3_reaches 29 = .ok (.goto 4, 3) := by decide +kernel
theorem dX3_reaches_32 : decode cX3_reaches 32 = .ok (.iconst 0, 1) := by decide +kernel
theorem dX3_reaches_33 : decode cX3_reaches 33 = .ok (.ireturn, 1) := by decide +kernel
theorem dX3_leastKey_0 : decode cX3_leastKey 0 = .ok (.aload_n 0, 1) := by decide +kernel
theorem dX3_leastKey_1 : decode cX3_leastKey 1 = .ok (.getfield 27, 3) := by decide +kernel
theorem dX3_leastKey_4 : decode cX3_leastKey 4 = .ok (.istore_n 3, 1) := by decide +kernel
theorem dX3_leastKey_5 : decode cX3_leastKey 5 = .ok (.iconst 0, 1) := by decide +kernel
theorem dX3_leastKey_6 : decode cX3_leastKey 6 = .ok (.istore 4, 2) := by decide +kernel
theorem dX3_leastKey_8 : decode cX3_leastKey 8 = .ok (.iload 4, 2) := by decide +kernel
theorem dX3_leastKey_10 : decode cX3_leastKey 10 = .ok (.aload_n 0, 1) := by decide +kernel
theorem dX3_leastKey_11 : decode cX3_leastKey 11 = .ok (.getfield 11, 3) := by decide +kernel
theorem dX3_leastKey_14 : decode cX3_leastKey 14 = .ok (.iload_n 2, 1) := by decide +kernel
theorem dX3_leastKey_15 : decode cX3_leastKey 15 = .ok (.iaload, 1) := by decide +kernel
theorem dX3_leastKey_16 : decode cX3_leastKey 16 = .ok (.if_icmp .ge 27, 3) := by decide +kernel
theorem dX3_leastKey_19 : decode cX3_leastKey 19 = .ok (.iload_n 3, 1) := by decide +kernel
theorem dX3_leastKey_20 : decode cX3_leastKey 20 = .ok (.aload_n 0, 1) := by decide +kernel
theorem dX3_leastKey_21 : decode cX3_leastKey 21 = .ok (.aload_n 0, 1) := by decide +kernel
theorem dX3_leastKey_22 : decode cX3_leastKey 22 = .ok (.iload_n 2, 1) := by decide +kernel
theorem dX3_leastKey_23 : decode cX3_leastKey 23 = .ok (.iload 4, 2) := by decide +kernel
theorem dX3_leastKey_25 : decode cX3_leastKey 25 = .ok (.invokevirtual 69, 3) := by decide +kernel
theorem dX3_leastKey_28 : decode cX3_leastKey 28 = .ok (.iload_n 1, 1) := by decide +kernel
theorem dX3_leastKey_29 : decode cX3_leastKey 29 = .ok (.isub, 1) := by decide +kernel
theorem dX3_leastKey_30 : decode cX3_leastKey 30 = .ok (.invokevirtual 52, 3) := by decide +kernel
theorem dX3_leastKey_33 : decode cX3_leastKey 33 = .ok (.invokestatic 72, 3) := by decide +kernel
theorem dX3_leastKey_36 : decode cX3_leastKey 36 = .ok (.istore_n 3, 1) := by decide +kernel
theorem dX3_leastKey_37 : decode cX3_leastKey 37 = .ok (.iinc 4 1, 3) := by decide +kernel
theorem dX3_leastKey_40 : decode cX3_leastKey 40 = .ok (.goto (-32), 3) := by decide +kernel
theorem dX3_leastKey_43 : decode cX3_leastKey 43 = .ok (.iload_n 3, 1) := by decide +kernel
theorem dX3_leastKey_44 : decode cX3_leastKey 44 = .ok (.ireturn, 1) := by decide +kernel
theorem dX3_greatestKey_0 : decode cX3_greatestKey 0 = .ok (.iconst 0, 1) := by decide +kernel
theorem dX3_greatestKey_1 : decode cX3_greatestKey 1 = .ok (.istore_n 3, 1) := by decide +kernel
theorem dX3_greatestKey_2 : decode cX3_greatestKey 2 = .ok (.iconst 0, 1) := by decide +kernel
theorem dX3_greatestKey_3 : decode cX3_greatestKey 3 = .ok (.istore 4, 2) := by decide +kernel
theorem dX3_greatestKey_5 : decode cX3_greatestKey 5 = .ok (.iload 4, 2) := by decide +kernel
theorem dX3_greatestKey_7 : decode cX3_greatestKey 7 = .ok (.aload_n 0, 1) := by decide +kernel
theorem dX3_greatestKey_8 : decode cX3_greatestKey 8 = .ok (.getfield 11, 3) := by decide +kernel
theorem dX3_greatestKey_11 : decode cX3_greatestKey 11 = .ok (.iload_n 2, 1) := by decide +kernel
theorem dX3_greatestKey_12 : decode cX3_greatestKey 12 = .ok (.iaload, 1) := by decide +kernel
theorem dX3_greatestKey_13 : decode cX3_greatestKey 13 = .ok (.if_icmp .ge 27, 3) := by decide +kernel
theorem dX3_greatestKey_16 : decode cX3_greatestKey 16 = .ok (.iload_n 3, 1) := by decide +kernel
theorem dX3_greatestKey_17 : decode cX3_greatestKey 17 = .ok (.aload_n 0, 1) := by decide +kernel
theorem dX3_greatestKey_18 : decode cX3_greatestKey 18 = .ok (.aload_n 0, 1) := by decide +kernel
theorem dX3_greatestKey_19 : decode cX3_greatestKey 19 = .ok (.iload_n 2, 1) := by decide +kernel
theorem dX3_greatestKey_20 : decode cX3_greatestKey 20 = .ok (.iload 4, 2) := by decide +kernel
theorem dX3_greatestKey_22 : decode cX3_greatestKey 22 = .ok (.invokevirtual 69, 3) := by decide +kernel
theorem dX3_greatestKey_25 : decode cX3_greatestKey 25 = .ok (.iload_n 1, 1) := by decide +kernel
theorem dX3_greatestKey_26 : decode cX3_greatestKey 26 = .ok (.isub, 1) := by decide +kernel
theorem dX3_greatestKey_27 : decode cX3_greatestKey 27 = .ok (.invokevirtual 52, 3) := by decide +kernel
theorem dX3_greatestKey_30 : decode cX3_greatestKey 30 = .ok (.invokestatic 77, 3) := by decide +kernel
theorem dX3_greatestKey_33 : decode cX3_greatestKey 33 = .ok (.istore_n 3, 1) := by decide +kernel
theorem dX3_greatestKey_34 : decode cX3_greatestKey 34 = .ok (.iinc 4 1, 3) := by decide +kernel
theorem dX3_greatestKey_37 : decode cX3_greatestKey 37 = .ok (.goto (-32), 3) := by decide +kernel
theorem dX3_greatestKey_40 : decode cX3_greatestKey 40 = .ok (.iload_n 3, 1) := by decide +kernel
theorem dX3_greatestKey_41 : decode cX3_greatestKey 41 = .ok (.ireturn, 1) := by decide +kernel
theorem dX4_init_0 : decode cX4_init 0 = .ok (.aload_n 0, 1) := by decide +kernel
theorem dX4_init_1 : decode cX4_init 1 = .ok (.invokespecial 1, 3) := by decide +kernel
theorem dX4_init_4 : decode cX4_init 4 = .ok (.aload_n 0, 1) := by decide +kernel
theorem dX4_init_5 : decode cX4_init 5 = .ok (.bipush 40, 2) := by decide +kernel
theorem dX4_init_7 : decode cX4_init 7 = .ok (.newarray .int, 2) := by decide +kernel
theorem dX4_init_9 : decode cX4_init 9 = .ok (.putfield 9, 3) := by decide +kernel
theorem dX4_init_12 : decode cX4_init 12 = .ok (.aload_n 0, 1) := by decide +kernel
theorem dX4_init_13 : decode cX4_init 13 = .ok (.iconst (-1), 1) := by decide +kernel
theorem dX4_init_14 : decode cX4_init 14 = .ok (.putfield 13, 3) := by decide +kernel
theorem dX4_init_17 : decode cX4_init 17 = .ok (.return_, 1) := by decide +kernel
theorem dX4_isLane_0 : decode cX4_isLane 0 = .ok (.iload_n 0, 1) := by decide +kernel
theorem dX4_isLane_1 : decode cX4_isLane 1 = .ok (.ifCond .lt 12, 3) := by decide +kernel
theorem dX4_isLane_4 : decode cX4_isLane 4 = .ok (.iload_n 0, 1) := by decide +kernel
theorem dX4_isLane_5 : decode cX4_isLane 5 = .ok (.iconst 2, 1) := by decide +kernel
theorem dX4_isLane_6 : decode cX4_isLane 6 = .ok (.if_icmp .gt 7, 3) := by decide +kernel
theorem dX4_isLane_9 : decode cX4_isLane 9 = .ok (.iconst 1, 1) := by decide +kernel
theorem dX4_isLane_10 : decode cX4_isLane 10 = .ok (.goto 4, 3) := by decide +kernel
theorem dX4_isLane_13 : decode cX4_isLane 13 = .ok (.iconst 0, 1) := by decide +kernel
theorem dX4_isLane_14 : decode cX4_isLane 14 = .ok (.ireturn, 1) := by decide +kernel
theorem dX4_isMissing_0 : decode cX4_isMissing 0 = .ok (.aload_n 0, 1) := by decide +kernel
theorem dX4_isMissing_1 : decode cX4_isMissing 1 = .ok (.getfield 13, 3) := by decide +kernel
theorem dX4_isMissing_4 : decode cX4_isMissing 4 = .ok (.iconst (-1), 1) := by decide +kernel
theorem dX4_isMissing_5 : decode cX4_isMissing 5 = .ok (.if_icmp .ne 7, 3) := by decide +kernel
theorem dX4_isMissing_8 : decode cX4_isMissing 8 = .ok (.iconst 1, 1) := by decide +kernel
theorem dX4_isMissing_9 : decode cX4_isMissing 9 = .ok (.goto 4, 3) := by decide +kernel
theorem dX4_isMissing_12 : decode cX4_isMissing 12 = .ok (.iconst 0, 1) := by decide +kernel
theorem dX4_isMissing_13 : decode cX4_isMissing 13 = .ok (.ireturn, 1) := by decide +kernel
theorem dX4_begin_0 : decode cX4_begin 0 = .ok (.aload_n 0, 1) := by decide +kernel
theorem dX4_begin_1 : decode cX4_begin 1 = .ok (.getfield 9, 3) := by decide +kernel
theorem dX4_begin_4 : decode cX4_begin 4 = .ok (.iconst 0, 1) := by decide +kernel
theorem dX4_begin_5 : decode cX4_begin 5 = .ok (.invokestatic 17, 3) := by decide +kernel
theorem dX4_begin_8 : decode cX4_begin 8 = .ok (.aload_n 0, 1) := by decide +kernel
theorem dX4_begin_9 : decode cX4_begin 9 = .ok (.iload_n 1, 1) := by decide +kernel
theorem dX4_begin_10 : decode cX4_begin 10 = .ok (.putfield 13, 3) := by decide +kernel
theorem dX4_begin_13 : decode cX4_begin 13 = .ok (.aload_n 0, 1) := by decide +kernel
theorem dX4_begin_14 : decode cX4_begin 14 = .ok (.iload_n 2, 1) := by decide +kernel
theorem dX4_begin_15 : decode cX4_begin 15 = .ok (.putfield 23, 3) := by decide +kernel
theorem dX4_begin_18 : decode cX4_begin 18 = .ok (.return_, 1) := by decide +kernel
theorem dX4_lose_0 : decode cX4_lose 0 = .ok (.aload_n 0, 1) := by decide +kernel
theorem dX4_lose_1 : decode cX4_lose 1 = .ok (.iconst (-1), 1) := by decide +kernel
theorem dX4_lose_2 : decode cX4_lose 2 = .ok (.putfield 13, 3) := by decide +kernel
theorem dX4_lose_5 : decode cX4_lose 5 = .ok (.aload_n 0, 1) := by decide +kernel
theorem dX4_lose_6 : decode cX4_lose 6 = .ok (.iconst 0, 1) := by decide +kernel
theorem dX4_lose_7 : decode cX4_lose 7 = .ok (.putfield 23, 3) := by decide +kernel
theorem dX4_lose_10 : decode cX4_lose 10 = .ok (.return_, 1) := by decide +kernel
theorem dX4_hasPlaces_0 : decode cX4_hasPlaces 0 = .ok (.iload_n 1, 1) := by decide +kernel
theorem dX4_hasPlaces_1 : decode cX4_hasPlaces 1 = .ok (.ifCond .lt 21, 3) := by decide +kernel
theorem dX4_hasPlaces_4 : decode cX4_hasPlaces 4 = .ok (.iload_n 2, 1) := by decide +kernel
theorem dX4_hasPlaces_5 : decode cX4_hasPlaces 5 = .ok (.ifCond .lt 17, 3) := by decide +kernel
theorem dX4_hasPlaces_8 : decode cX4_hasPlaces 8 = .ok (.iload_n 1, 1) := by decide +kernel
theorem dX4_hasPlaces_9 : decode cX4_hasPlaces 9 = .ok (.aload_n 0, 1) := by decide +kernel
theorem dX4_hasPlaces_10 : decode cX4_hasPlaces 10 = .ok (.getfield 23, 3) := by decide +kernel
theorem dX4_hasPlaces_13 : decode cX4_hasPlaces 13 = .ok (.iload_n 2, 1) := by decide +kernel
theorem dX4_hasPlaces_14 : decode cX4_hasPlaces 14 = .ok (.isub, 1) := by decide +kernel
theorem dX4_hasPlaces_15 : decode cX4_hasPlaces 15 = .ok (.if_icmp .gt 7, 3) := by decide +kernel
theorem dX4_hasPlaces_18 : decode cX4_hasPlaces 18 = .ok (.iconst 1, 1) := by decide +kernel
theorem dX4_hasPlaces_19 : decode cX4_hasPlaces 19 = .ok (.goto 4, 3) := by decide +kernel
theorem dX4_hasPlaces_22 : decode cX4_hasPlaces 22 = .ok (.iconst 0, 1) := by decide +kernel
theorem dX4_hasPlaces_23 : decode cX4_hasPlaces 23 = .ok (.ireturn, 1) := by decide +kernel
theorem dX4_put_0 : decode cX4_put 0 = .ok (.aload_n 0, 1) := by decide +kernel
theorem dX4_put_1 : decode cX4_put 1 = .ok (.getfield 9, 3) := by decide +kernel
theorem dX4_put_4 : decode cX4_put 4 = .ok (.iload_n 1, 1) := by decide +kernel
theorem dX4_put_5 : decode cX4_put 5 = .ok (.aload_n 0, 1) := by decide +kernel
theorem dX4_put_6 : decode cX4_put 6 = .ok (.iload_n 2, 1) := by decide +kernel
theorem dX4_put_7 : decode cX4_put 7 = .ok (.invokevirtual 26, 3) := by decide +kernel
theorem dX4_put_10 : decode cX4_put 10 = .ok (.iastore, 1) := by decide +kernel
theorem dX4_put_11 : decode cX4_put 11 = .ok (.aload_n 0, 1) := by decide +kernel
theorem dX4_put_12 : decode cX4_put 12 = .ok (.getfield 9, 3) := by decide +kernel
theorem dX4_put_15 : decode cX4_put 15 = .ok (.iload_n 1, 1) := by decide +kernel
theorem dX4_put_16 : decode cX4_put 16 = .ok (.iaload, 1) := by decide +kernel
theorem dX4_put_17 : decode cX4_put 17 = .ok (.ireturn, 1) := by decide +kernel
theorem dX4_lowestBits_0 : decode cX4_lowestBits 0 = .ok (.aload_n 0, 1) := by decide +kernel
theorem dX4_lowestBits_1 : decode cX4_lowestBits 1 = .ok (.getfield 13, 3) := by decide +kernel
theorem dX4_lowestBits_4 : decode cX4_lowestBits 4 = .ok (.ifCond .ne 6, 3) := by decide +kernel
theorem dX4_lowestBits_7 : decode cX4_lowestBits 7 = .ok (.iload_n 1, 1) := by decide +kernel
theorem dX4_lowestBits_8 : decode cX4_lowestBits 8 = .ok (.i2b, 1) := by decide +kernel
theorem dX4_lowestBits_9 : decode cX4_lowestBits 9 = .ok (.ireturn, 1) := by decide +kernel
theorem dX4_lowestBits_10 : decode cX4_lowestBits 10 = .ok (.aload_n 0, 1) := by decide +kernel
theorem dX4_lowestBits_11 : decode cX4_lowestBits 11 = .ok (.getfield 13, 3) := by decide +kernel
theorem dX4_lowestBits_14 : decode cX4_lowestBits 14 = .ok (.iconst 1, 1) := by decide +kernel
theorem dX4_lowestBits_15 : decode cX4_lowestBits 15 = .ok (.if_icmp .ne 8, 3) := by decide +kernel
theorem dX4_lowestBits_18 : decode cX4_lowestBits 18 = .ok (.iload_n 1, 1) := by decide +kernel
theorem dX4_lowestBits_19 : decode cX4_lowestBits 19 = .ok (.i2s, 1) := by decide +kernel
theorem dX4_lowestBits_20 : decode cX4_lowestBits 20 = .ok (.goto 4, 3) := by decide +kernel
theorem dX4_lowestBits_23 : decode cX4_lowestBits 23 = .ok (.iload_n 1, 1) := by decide +kernel
theorem dX4_lowestBits_24 : decode cX4_lowestBits 24 = .ok (.ireturn, 1) := by decide +kernel
theorem dX5_init_0 : decode cX5_init 0 = .ok (.aload_n 0, 1) := by decide +kernel
theorem dX5_init_1 : decode cX5_init 1 = .ok (.invokespecial 3, 3) := by decide +kernel
theorem dX5_init_4 : decode cX5_init 4 = .ok (.aload_n 0, 1) := by decide +kernel
theorem dX5_init_5 : decode cX5_init 5 = .ok (.bipush 120, 2) := by decide +kernel
theorem dX5_init_7 : decode cX5_init 7 = .ok (.newarray .int, 2) := by decide +kernel
theorem dX5_init_9 : decode cX5_init 9 = .ok (.putfield 11, 3) := by decide +kernel
theorem dX5_init_12 : decode cX5_init 12 = .ok (.return_, 1) := by decide +kernel
theorem dX5_isFull_0 : decode cX5_isFull 0 = .ok (.aload_n 0, 1) := by decide +kernel
theorem dX5_isFull_1 : decode cX5_isFull 1 = .ok (.getfield 15, 3) := by decide +kernel
theorem dX5_isFull_4 : decode cX5_isFull 4 = .ok (.bipush 120, 2) := by decide +kernel
theorem dX5_isFull_6 : decode cX5_isFull 6 = .ok (.if_icmp .lt 7, 3) := by decide +kernel
theorem dX5_isFull_9 : decode cX5_isFull 9 = .ok (.iconst 1, 1) := by decide +kernel
theorem dX5_isFull_10 : decode cX5_isFull 10 = .ok (.goto 4, 3) := by decide +kernel
theorem dX5_isFull_13 : decode cX5_isFull 13 = .ok (.iconst 0, 1) := by decide +kernel
theorem dX5_isFull_14 : decode cX5_isFull 14 = .ok (.ireturn, 1) := by decide +kernel
theorem dX5_append_0 : decode cX5_append 0 = .ok (.aload_n 0, 1) := by decide +kernel
theorem dX5_append_1 : decode cX5_append 1 = .ok (.getfield 11, 3) := by decide +kernel
theorem dX5_append_4 : decode cX5_append 4 = .ok (.aload_n 0, 1) := by decide +kernel
theorem dX5_append_5 : decode cX5_append 5 = .ok (.getfield 15, 3) := by decide +kernel
theorem dX5_append_8 : decode cX5_append 8 = .ok (.iload_n 1, 1) := by decide +kernel
theorem dX5_append_9 : decode cX5_append 9 = .ok (.iastore, 1) := by decide +kernel
theorem dX5_append_10 : decode cX5_append 10 = .ok (.aload_n 0, 1) := by decide +kernel
theorem dX5_append_11 : decode cX5_append 11 = .ok (.dup, 1) := by decide +kernel
theorem dX5_append_12 : decode cX5_append 12 = .ok (.getfield 15, 3) := by decide +kernel
theorem dX5_append_15 : decode cX5_append 15 = .ok (.iconst 1, 1) := by decide +kernel
theorem dX5_append_16 : decode cX5_append 16 = .ok (.iadd, 1) := by decide +kernel
theorem dX5_append_17 : decode cX5_append 17 = .ok (.putfield 15, 3) := by decide +kernel
theorem dX5_append_20 : decode cX5_append 20 = .ok (.aload_n 0, 1) := by decide +kernel
theorem dX5_append_21 : decode cX5_append 21 = .ok (.getfield 15, 3) := by decide +kernel
theorem dX5_append_24 : decode cX5_append 24 = .ok (.ireturn, 1) := by decide +kernel
theorem dX5_clear_0 : decode cX5_clear 0 = .ok (.aload_n 0, 1) := by decide +kernel
theorem dX5_clear_1 : decode cX5_clear 1 = .ok (.iconst 0, 1) := by decide +kernel
theorem dX5_clear_2 : decode cX5_clear 2 = .ok (.putfield 15, 3) := by decide +kernel
theorem dX5_clear_5 : decode cX5_clear 5 = .ok (.return_, 1) := by decide +kernel
theorem dX5_readInto_0 : decode cX5_readInto 0 = .ok (.aload_n 0, 1) := by decide +kernel
theorem dX5_readInto_1 : decode cX5_readInto 1 = .ok (.iconst 0, 1) := by decide +kernel
theorem dX5_readInto_2 : decode cX5_readInto 2 = .ok (.putfield 19, 3) := by decide +kernel
theorem dX5_readInto_5 : decode cX5_readInto 5 = .ok (.aload_n 0, 1) := by decide +kernel
theorem dX5_readInto_6 : decode cX5_readInto 6 = .ok (.iconst 0, 1) := by decide +kernel
theorem dX5_readInto_7 : decode cX5_readInto 7 = .ok (.putfield 22, 3) := by decide +kernel
theorem dX5_readInto_10 : decode cX5_readInto 10 = .ok (.aload_n 0, 1) := by decide +kernel
theorem dX5_readInto_11 : decode cX5_readInto 11 = .ok (.aload_n 1, 1) := by decide +kernel
theorem dX5_readInto_12 : decode cX5_readInto 12 = .ok (.invokevirtual 25, 3) := by decide +kernel
theorem dX5_readInto_15 : decode cX5_readInto 15 = .ok (.aload_n 0, 1) := by decide +kernel
theorem dX5_readInto_16 : decode cX5_readInto 16 = .ok (.aload_n 1, 1) := by decide +kernel
theorem dX5_readInto_17 : decode cX5_readInto 17 = .ok (.invokevirtual 29, 3) := by decide +kernel
theorem dX5_readInto_20 : decode cX5_readInto 20 = .ok (.aload_n 0, 1) := by decide +kernel
theorem dX5_readInto_21 : decode cX5_readInto 21 = .ok (.aload_n 1, 1) := by decide +kernel
theorem dX5_readInto_22 : decode cX5_readInto 22 = .ok (.invokevirtual 32, 3) := by decide +kernel
theorem dX5_readInto_25 : decode cX5_readInto 25 = .ok (.aload_n 0, 1) := by decide +kernel
theorem dX5_readInto_26 : decode cX5_readInto 26 = .ok (.getfield 22, 3) := by decide +kernel
theorem dX5_readInto_29 : decode cX5_readInto 29 = .ok (.ifCond .ne 19, 3) := by decide +kernel
theorem dX5_readInto_32 : decode cX5_readInto 32 = .ok (.aload_n 0, 1) := by decide +kernel
theorem dX5_readInto_33 : decode cX5_readInto 33 = .ok (.getfield 19, 3) := by decide +kernel
theorem dX5_readInto_36 : decode cX5_readInto 36 = .ok (.aload_n 0, 1) := by decide +kernel
theorem dX5_readInto_37 : decode cX5_readInto 37 = .ok (.getfield 15, 3) := by decide +kernel
theorem dX5_readInto_40 : decode cX5_readInto 40 = .ok (.if_icmp .ge 8, 3) := by decide +kernel
theorem dX5_readInto_43 : decode cX5_readInto 43 = .ok (.aload_n 0, 1) := by decide +kernel
theorem dX5_readInto_44 : decode cX5_readInto 44 = .ok (.iconst 1, 1) := by decide +kernel
theorem dX5_readInto_45 : decode cX5_readInto 45 = .ok (.invokevirtual 35, 3) := by decide +kernel
theorem dX5_readInto_48 : decode cX5_readInto 48 = .ok (.aload_n 0, 1) := by decide +kernel
theorem dX5_readInto_49 : decode cX5_readInto 49 = .ok (.getfield 22, 3) := by decide +kernel
theorem dX5_readInto_52 : decode cX5_readInto 52 = .ok (.ifCond .ne 7, 3) := by decide +kernel
theorem dX5_readInto_55 : decode cX5_readInto 55 = .ok (.iconst 1, 1) := by decide +kernel
theorem dX5_readInto_56 : decode cX5_readInto 56 = .ok (.goto 4, 3) := by decide +kernel
theorem dX5_readInto_59 : decode cX5_readInto 59 = .ok (.iconst 0, 1) := by decide +kernel
theorem dX5_readInto_60 : decode cX5_readInto 60 = .ok (.ireturn, 1) := by decide +kernel
theorem dX5_readLaw_0 : decode cX5_readLaw 0 = .ok (.aload_n 0, 1) := by decide +kernel
theorem dX5_readLaw_1 : decode cX5_readLaw 1 = .ok (.bipush 107, 2) := by decide +kernel
theorem dX5_readLaw_3 : decode cX5_readLaw 3 = .ok (.invokevirtual 39, 3) := by decide +kernel
theorem dX5_readLaw_6 : decode cX5_readLaw 6 = .ok (.aload_n 1, 1) := by decide +kernel
theorem dX5_readLaw_7 : decode cX5_readLaw 7 = .ok (.aload_n 0, 1) := by decide +kernel
theorem dX5_readLaw_8 : decode cX5_readLaw 8 = .ok (.iconst 2, 1) := by decide +kernel
theorem dX5_readLaw_9 : decode cX5_readLaw 9 = .ok (.bipush 12, 2) := by decide +kernel
theorem dX5_readLaw_11 : decode cX5_readLaw 11 = .ok (.invokevirtual 44, 3) := by decide +kernel
theorem dX5_readLaw_14 : decode cX5_readLaw 14 = .ok (.putfield 48, 3) := by decide +kernel
theorem dX5_readLaw_17 : decode cX5_readLaw 17 = .ok (.aload_n 0, 1) := by decide +kernel
theorem dX5_readLaw_18 : decode cX5_readLaw 18 = .ok (.bipush 44, 2) := by decide +kernel
theorem dX5_readLaw_20 : decode cX5_readLaw 20 = .ok (.invokevirtual 39, 3) := by decide +kernel
theorem dX5_readLaw_23 : decode cX5_readLaw 23 = .ok (.aload_n 1, 1) := by decide +kernel
theorem dX5_readLaw_24 : decode cX5_readLaw 24 = .ok (.aload_n 0, 1) := by decide +kernel
theorem dX5_readLaw_25 : decode cX5_readLaw 25 = .ok (.iconst 0, 1) := by decide +kernel
theorem dX5_readLaw_26 : decode cX5_readLaw 26 = .ok (.aload_n 1, 1) := by decide +kernel
theorem dX5_readLaw_27 : decode cX5_readLaw 27 = .ok (.getfield 48, 3) := by decide +kernel
theorem dX5_readLaw_30 : decode cX5_readLaw 30 = .ok (.iconst 1, 1) := by decide +kernel
theorem dX5_readLaw_31 : decode cX5_readLaw 31 = .ok (.isub, 1) := by decide +kernel
theorem dX5_readLaw_32 : decode cX5_readLaw 32 = .ok (.invokevirtual 44, 3) := by decide +kernel
theorem dX5_readLaw_35 : decode cX5_readLaw 35 = .ok (.putfield 51, 3) := by decide +kernel
theorem dX5_readLaw_38 : decode cX5_readLaw 38 = .ok (.aload_n 0, 1) := by decide +kernel
theorem dX5_readLaw_39 : decode cX5_readLaw 39 = .ok (.bipush 44, 2) := by decide +kernel
theorem dX5_readLaw_41 : decode cX5_readLaw 41 = .ok (.invokevirtual 39, 3) := by decide +kernel
theorem dX5_readLaw_44 : decode cX5_readLaw 44 = .ok (.aload_n 1, 1) := by decide +kernel
theorem dX5_readLaw_45 : decode cX5_readLaw 45 = .ok (.aload_n 0, 1) := by decide +kernel
theorem dX5_readLaw_46 : decode cX5_readLaw 46 = .ok (.iconst 0, 1) := by decide +kernel
theorem dX5_readLaw_47 : decode cX5_readLaw 47 = .ok (.aload_n 1, 1) := by decide +kernel
theorem dX5_readLaw_48 : decode cX5_readLaw 48 = .ok (.getfield 48, 3) := by decide +kernel
theorem dX5_readLaw_51 : decode cX5_readLaw 51 = .ok (.iconst 1, 1) := by decide +kernel
theorem dX5_readLaw_52 : decode cX5_readLaw 52 = .ok (.isub, 1) := by decide +kernel
theorem dX5_readLaw_53 : decode cX5_readLaw 53 = .ok (.invokevirtual 44, 3) := by decide +kernel
theorem dX5_readLaw_56 : decode cX5_readLaw 56 = .ok (.putfield 54, 3) := by decide +kernel
theorem dX5_readLaw_59 : decode cX5_readLaw 59 = .ok (.aload_n 0, 1) := by decide +kernel
theorem dX5_readLaw_60 : decode cX5_readLaw 60 = .ok (.bipush 59, 2) := by decide +kernel
theorem dX5_readLaw_62 : decode cX5_readLaw 62 = .ok (.invokevirtual 39, 3) := by decide +kernel
theorem dX5_readLaw_65 : decode cX5_readLaw 65 = .ok (.aload_n 1, 1) := by decide +kernel
theorem dX5_readLaw_66 : decode cX5_readLaw 66 = .ok (.iconst 0, 1) := by decide +kernel
theorem dX5_readLaw_67 : decode cX5_readLaw 67 = .ok (.putfield 57, 3) := by decide +kernel
theorem dX5_readLaw_70 : decode cX5_readLaw 70 = .ok (.return_, 1) := by decide +kernel
theorem dX5_readPieces_0 : decode cX5_readPieces 0 = .ok (.aload_n 1, 1) := by decide +kernel
theorem dX5_readPieces_1 : decode cX5_readPieces 1 = .ok (.iconst 0, 1) := by decide +kernel
theorem dX5_readPieces_2 : decode cX5_readPieces 2 = .ok (.putfield 60, 3) := by decide +kernel
theorem dX5_readPieces_5 : decode cX5_readPieces 5 = .ok (.iconst 0, 1) := by decide +kernel
theorem dX5_readPieces_6 : decode cX5_readPieces 6 = .ok (.istore_n 2, 1) := by decide +kernel
theorem dX5_readPieces_7 : decode cX5_readPieces 7 = .ok (.iload_n 2, 1) := by decide +kernel
theorem dX5_readPieces_8 : decode cX5_readPieces 8 = .ok (.iconst 4, 1) := by decide +kernel
theorem dX5_readPieces_9 : decode cX5_readPieces 9 = .ok (.if_icmp .ge 46, 3) := by decide +kernel
theorem dX5_readPieces_12 : decode cX5_readPieces 12 = .ok (.aload_n 0, 1) := by decide +kernel
theorem dX5_readPieces_13 : decode cX5_readPieces 13 = .ok (.bipush 116, 2) := by decide +kernel
theorem dX5_readPieces_15 : decode cX5_readPieces 15 = .ok (.invokevirtual 63, 3) := by decide +kernel
theorem dX5_readPieces_18 : decode cX5_readPieces 18 = .ok (.ifCond .eq 37, 3) := by decide +kernel
theorem dX5_readPieces_21 : decode cX5_readPieces 21 = .ok (.aload_n 0, 1) := by decide +kernel
theorem dX5_readPieces_22 : decode cX5_readPieces 22 = .ok (.bipush 116, 2) := by decide +kernel
theorem dX5_readPieces_24 : decode cX5_readPieces 24 = .ok (.invokevirtual 39, 3) := by decide +kernel
theorem dX5_readPieces_27 : decode cX5_readPieces 27 = .ok (.aload_n 0, 1) := by decide +kernel
theorem dX5_readPieces_28 : decode cX5_readPieces 28 = .ok (.aload_n 1, 1) := by decide +kernel
theorem dX5_readPieces_29 : decode cX5_readPieces 29 = .ok (.iload_n 2, 1) := by decide +kernel
theorem dX5_readPieces_30 : decode cX5_readPieces 30 = .ok (.invokevirtual 67, 3) := by decide +kernel
theorem dX5_readPieces_33 : decode cX5_readPieces 33 = .ok (.aload_n 0, 1) := by decide +kernel
theorem dX5_readPieces_34 : decode cX5_readPieces 34 = .ok (.bipush 59, 2) := by decide +kernel
theorem dX5_readPieces_36 : decode cX5_readPieces 36 = .ok (.invokevirtual 39, 3) := by decide +kernel
theorem dX5_readPieces_39 : decode cX5_readPieces 39 = .ok (.aload_n 1, 1) := by decide +kernel
theorem dX5_readPieces_40 : decode cX5_readPieces 40 = .ok (.dup, 1) := by decide +kernel
theorem dX5_readPieces_41 : decode cX5_readPieces 41 = .ok (.getfield 60, 3) := by decide +kernel
theorem dX5_readPieces_44 : decode cX5_readPieces 44 = .ok (.iconst 1, 1) := by decide +kernel
theorem dX5_readPieces_45 : decode cX5_readPieces 45 = .ok (.iadd, 1) := by decide +kernel
theorem dX5_readPieces_46 : decode cX5_readPieces 46 = .ok (.putfield 60, 3) := by decide +kernel
theorem dX5_readPieces_49 : decode cX5_readPieces 49 = .ok (.iinc 2 1, 3) := by decide +kernel
theorem dX5_readPieces_52 : decode cX5_readPieces 52 = .ok (.goto (-45), 3) := by decide +kernel
theorem dX5_readPieces_55 : decode cX5_readPieces 55 = .ok (.aload_n 0, 1) := by decide +kernel
theorem dX5_readPieces_56 : decode cX5_readPieces 56 = .ok (.bipush 116, 2) := by decide +kernel
theorem dX5_readPieces_58 : decode cX5_readPieces 58 = .ok (.invokevirtual 63, 3) := by decide +kernel
theorem dX5_readPieces_61 : decode cX5_readPieces 61 = .ok (.ifCond .eq 8, 3) := by decide +kernel
theorem dX5_readPieces_64 : decode cX5_readPieces 64 = .ok (.aload_n 0, 1) := by decide +kernel
theorem dX5_readPieces_65 : decode cX5_readPieces 65 = .ok (.iconst 3, 1) := by decide +kernel
theorem dX5_readPieces_66 : decode cX5_readPieces 66 = .ok (.invokevirtual 35, 3) := by decide +kernel
theorem dX5_readPieces_69 : decode cX5_readPieces 69 = .ok (.return_, 1) := by decide +kernel
theorem dX5_readStrings_0 : decode cX5_readStrings 0 = .ok (.iconst 0, 1) := by decide +kernel
theorem dX5_readStrings_1 : decode cX5_readStrings 1 = .ok (.istore_n 3, 1) := by decide +kernel
theorem dX5_readStrings_2 : decode cX5_readStrings 2 = .ok (.iload_n 3, 1) := by decide +kernel
theorem dX5_readStrings_3 : decode cX5_readStrings 3 = .ok (.bipush 8, 2) := by decide +kernel
theorem dX5_readStrings_5 : decode cX5_readStrings 5 = .ok (.if_icmp .ge 48, 3) := by decide +kernel
theorem dX5_readStrings_8 : decode cX5_readStrings 8 = .ok (.aload_n 0, 1) := by decide +kernel
theorem dX5_readStrings_9 : decode cX5_readStrings 9 = .ok (.aload_n 1, 1) := by decide +kernel
theorem dX5_readStrings_10 : decode cX5_readStrings 10 = .ok (.getfield 48, 3) := by decide +kernel
theorem dX5_readStrings_13 : decode cX5_readStrings 13 = .ok (.invokevirtual 71, 3) := by decide +kernel
theorem dX5_readStrings_16 : decode cX5_readStrings 16 = .ok (.ifCond .eq 37, 3) := by decide +kernel
theorem dX5_readStrings_19 : decode cX5_readStrings 19 = .ok (.aload_n 1, 1) := by decide +kernel
theorem dX5_readStrings_20 : decode cX5_readStrings 20 = .ok (.getfield 74, 3) := by decide +kernel
theorem dX5_readStrings_23 : decode cX5_readStrings 23 = .ok (.iload_n 2, 1) := by decide +kernel
theorem dX5_readStrings_24 : decode cX5_readStrings 24 = .ok (.bipush 8, 2) := by decide +kernel
theorem dX5_readStrings_26 : decode cX5_readStrings 26 = .ok (.imul, 1) := by decide +kernel
theorem dX5_readStrings_27 : decode cX5_readStrings 27 = .ok (.iload_n 3, 1) := by decide +kernel
theorem dX5_readStrings_28 : decode cX5_readStrings 28 = .ok (.iadd, 1) := by decide +kernel
theorem dX5_readStrings_29 : decode cX5_readStrings 29 = .ok (.aload_n 0, 1) := by decide +kernel
theorem dX5_readStrings_30 : decode cX5_readStrings 30 = .ok (.invokevirtual 77, 3) := by decide +kernel
theorem dX5_readStrings_33 : decode cX5_readStrings 33 = .ok (.bipush 97, 2) := by decide +kernel
theorem dX5_readStrings_35 : decode cX5_readStrings 35 = .ok (.isub, 1) := by decide +kernel
theorem dX5_readStrings_36 : decode cX5_readStrings 36 = .ok (.iastore, 1) := by decide +kernel
theorem dX5_readStrings_37 : decode cX5_readStrings 37 = .ok (.aload_n 0, 1) := by decide +kernel
theorem dX5_readStrings_38 : decode cX5_readStrings 38 = .ok (.dup, 1) := by decide +kernel
theorem dX5_readStrings_39 : decode cX5_readStrings 39 = .ok (.getfield 19, 3) := by decide +kernel
theorem dX5_readStrings_42 : decode cX5_readStrings 42 = .ok (.iconst 1, 1) := by decide +kernel
theorem dX5_readStrings_43 : decode cX5_readStrings 43 = .ok (.iadd, 1) := by decide +kernel
theorem dX5_readStrings_44 : decode cX5_readStrings 44 = .ok (.putfield 19, 3) := by decide +kernel
theorem dX5_readStrings_47 : decode cX5_readStrings 47 = .ok (.iinc 3 1, 3) := by decide +kernel
theorem dX5_readStrings_50 : decode cX5_readStrings 50 = .ok (.goto (-48), 3) := by decide +kernel
theorem dX5_readStrings_53 : decode cX5_readStrings 53 = .ok (.iload_n 3, 1) := by decide +kernel
theorem dX5_readStrings_54 : decode cX5_readStrings 54 = .ok (.ifCond .ne 8, 3) := by decide +kernel
theorem dX5_readStrings_57 : decode cX5_readStrings 57 = .ok (.aload_n 0, 1) := by decide +kernel
theorem dX5_readStrings_58 : decode cX5_readStrings 58 = .ok (.iconst 1, 1) := by decide +kernel
theorem dX5_readStrings_59 : decode cX5_readStrings 59 = .ok (.invokevirtual 35, 3) := by decide +kernel
theorem dX5_readStrings_62 : decode cX5_readStrings 62 = .ok (.aload_n 1, 1) := by decide +kernel
theorem dX5_readStrings_63 : decode cX5_readStrings 63 = .ok (.getfield 81, 3) := by decide +kernel
theorem dX5_readStrings_66 : decode cX5_readStrings 66 = .ok (.iload_n 2, 1) := by decide +kernel
theorem dX5_readStrings_67 : decode cX5_readStrings 67 = .ok (.iload_n 3, 1) := by decide +kernel
theorem dX5_readStrings_68 : decode cX5_readStrings 68 = .ok (.iastore, 1) := by decide +kernel
theorem dX5_readStrings_69 : decode cX5_readStrings 69 = .ok (.return_, 1) := by decide +kernel
theorem dX5_readPupils_0 : decode cX5_readPupils 0 = .ok (.aload_n 1, 1) := by decide +kernel
theorem dX5_readPupils_1 : decode cX5_readPupils 1 = .ok (.iconst 0, 1) := by decide +kernel
theorem dX5_readPupils_2 : decode cX5_readPupils 2 = .ok (.putfield 84, 3) := by decide +kernel
theorem dX5_readPupils_5 : decode cX5_readPupils 5 = .ok (.iconst 0, 1) := by decide +kernel
theorem dX5_readPupils_6 : decode cX5_readPupils 6 = .ok (.istore_n 2, 1) := by decide +kernel
theorem dX5_readPupils_7 : decode cX5_readPupils 7 = .ok (.iload_n 2, 1) := by decide +kernel
theorem dX5_readPupils_8 : decode cX5_readPupils 8 = .ok (.iconst 5, 1) := by decide +kernel
theorem dX5_readPupils_9 : decode cX5_readPupils 9 = .ok (.if_icmp .ge 91, 3) := by decide +kernel
theorem dX5_readPupils_12 : decode cX5_readPupils 12 = .ok (.aload_n 0, 1) := by decide +kernel
theorem dX5_readPupils_13 : decode cX5_readPupils 13 = .ok (.invokevirtual 87, 3) := by decide +kernel
theorem dX5_readPupils_16 : decode cX5_readPupils 16 = .ok (.ifCond .eq 84, 3) := by decide +kernel
theorem dX5_readPupils_19 : decode cX5_readPupils 19 = .ok (.aload_n 1, 1) := by decide +kernel
theorem dX5_readPupils_20 : decode cX5_readPupils 20 = .ok (.getfield 91, 3) := by decide +kernel
theorem dX5_readPupils_23 : decode cX5_readPupils 23 = .ok (.iload_n 2, 1) := by decide +kernel
theorem dX5_readPupils_24 : decode cX5_readPupils 24 = .ok (.aload_n 0, 1) := by decide +kernel
theorem dX5_readPupils_25 : decode cX5_readPupils 25 = .ok (.invokevirtual 77, 3) := by decide +kernel
theorem dX5_readPupils_28 : decode cX5_readPupils 28 = .ok (.invokestatic 94, 3) := by decide +kernel
theorem dX5_readPupils_31 : decode cX5_readPupils 31 = .ok (.iastore, 1) := by decide +kernel
theorem dX5_readPupils_32 : decode cX5_readPupils 32 = .ok (.aload_n 0, 1) := by decide +kernel
theorem dX5_readPupils_33 : decode cX5_readPupils 33 = .ok (.dup, 1) := by decide +kernel
theorem dX5_readPupils_34 : decode cX5_readPupils 34 = .ok (.getfield 19, 3) := by decide +kernel
theorem dX5_readPupils_37 : decode cX5_readPupils 37 = .ok (.iconst 1, 1) := by decide +kernel
theorem dX5_readPupils_38 : decode cX5_readPupils 38 = .ok (.iadd, 1) := by decide +kernel
theorem dX5_readPupils_39 : decode cX5_readPupils 39 = .ok (.putfield 19, 3) := by decide +kernel
theorem dX5_readPupils_42 : decode cX5_readPupils 42 = .ok (.aload_n 1, 1) := by decide +kernel
theorem dX5_readPupils_43 : decode cX5_readPupils 43 = .ok (.getfield 98, 3) := by decide +kernel
theorem dX5_readPupils_46 : decode cX5_readPupils 46 = .ok (.iload_n 2, 1) := by decide +kernel
theorem dX5_readPupils_47 : decode cX5_readPupils 47 = .ok (.aload_n 0, 1) := by decide +kernel
theorem dX5_readPupils_48 : decode cX5_readPupils 48 = .ok (.iconst 0, 1) := by decide +kernel
theorem dX5_readPupils_49 : decode cX5_readPupils 49 = .ok (.aload_n 1, 1) := by decide +kernel
theorem dX5_readPupils_50 : decode cX5_readPupils 50 = .ok (.getfield 48, 3) := by decide +kernel
theorem dX5_readPupils_53 : decode cX5_readPupils 53 = .ok (.iconst 1, 1) := by decide +kernel
theorem dX5_readPupils_54 : decode cX5_readPupils 54 = .ok (.isub, 1) := by decide +kernel
theorem dX5_readPupils_55 : decode cX5_readPupils 55 = .ok (.invokevirtual 44, 3) := by decide +kernel
theorem dX5_readPupils_58 : decode cX5_readPupils 58 = .ok (.iastore, 1) := by decide +kernel
theorem dX5_readPupils_59 : decode cX5_readPupils 59 = .ok (.aload_n 0, 1) := by decide +kernel
theorem dX5_readPupils_60 : decode cX5_readPupils 60 = .ok (.bipush 44, 2) := by decide +kernel
theorem dX5_readPupils_62 : decode cX5_readPupils 62 = .ok (.invokevirtual 39, 3) := by decide +kernel
theorem dX5_readPupils_65 : decode cX5_readPupils 65 = .ok (.aload_n 1, 1) := by decide +kernel
theorem dX5_readPupils_66 : decode cX5_readPupils 66 = .ok (.getfield 101, 3) := by decide +kernel
theorem dX5_readPupils_69 : decode cX5_readPupils 69 = .ok (.iload_n 2, 1) := by decide +kernel
theorem dX5_readPupils_70 : decode cX5_readPupils 70 = .ok (.aload_n 0, 1) := by decide +kernel
theorem dX5_readPupils_71 : decode cX5_readPupils 71 = .ok (.iconst 1, 1) := by decide +kernel
theorem dX5_readPupils_72 : decode cX5_readPupils 72 = .ok (.bipush 12, 2) := by decide +kernel
theorem dX5_readPupils_74 : decode cX5_readPupils 74 = .ok (.invokevirtual 44, 3) := by decide +kernel
theorem dX5_readPupils_77 : decode cX5_readPupils 77 = .ok (.iastore, 1) := by decide +kernel
theorem dX5_readPupils_78 : decode cX5_readPupils 78 = .ok (.aload_n 0, 1) := by decide +kernel
theorem dX5_readPupils_79 : decode cX5_readPupils 79 = .ok (.bipush 59, 2) := by decide +kernel
theorem dX5_readPupils_81 : decode cX5_readPupils 81 = .ok (.invokevirtual 39, 3) := by decide +kernel
theorem dX5_readPupils_84 : decode cX5_readPupils 84 = .ok (.aload_n 1, 1) := by decide +kernel
theorem dX5_readPupils_85 : decode cX5_readPupils 85 = .ok (.dup, 1) := by decide +kernel
theorem dX5_readPupils_86 : decode cX5_readPupils 86 = .ok (.getfield 84, 3) := by decide +kernel
theorem dX5_readPupils_89 : decode cX5_readPupils 89 = .ok (.iconst 1, 1) := by decide +kernel
theorem dX5_readPupils_90 : decode cX5_readPupils 90 = .ok (.iadd, 1) := by decide +kernel
theorem dX5_readPupils_91 : decode cX5_readPupils 91 = .ok (.putfield 84, 3) := by decide +kernel
theorem dX5_readPupils_94 : decode cX5_readPupils 94 = .ok (.iinc 2 1, 3) := by decide +kernel
theorem dX5_readPupils_97 : decode cX5_readPupils 97 = .ok (.goto (-90), 3) := by decide +kernel
theorem dX5_readPupils_100 : decode cX5_readPupils 100 = .ok (.aload_n 0, 1) := by decide +kernel
theorem dX5_readPupils_101 : decode cX5_readPupils 101 = .ok (.invokevirtual 87, 3) := by decide +kernel
theorem dX5_readPupils_104 : decode cX5_readPupils 104 = .ok (.ifCond .eq 8, 3) := by decide +kernel
theorem dX5_readPupils_107 : decode cX5_readPupils 107 = .ok (.aload_n 0, 1) := by decide +kernel
theorem dX5_readPupils_108 : decode cX5_readPupils 108 = .ok (.iconst 3, 1) := by decide +kernel
theorem dX5_readPupils_109 : decode cX5_readPupils 109 = .ok (.invokevirtual 35, 3) := by decide +kernel
theorem dX5_readPupils_112 : decode cX5_readPupils 112 = .ok (.return_, 1) := by decide +kernel
theorem dX5_takeByte_0 : decode cX5_takeByte 0 = .ok (.aload_n 0, 1) := by decide +kernel
theorem dX5_takeByte_1 : decode cX5_takeByte 1 = .ok (.iload_n 1, 1) := by decide +kernel
theorem dX5_takeByte_2 : decode cX5_takeByte 2 = .ok (.invokevirtual 63, 3) := by decide +kernel
theorem dX5_takeByte_5 : decode cX5_takeByte 5 = .ok (.ifCond .eq 16, 3) := by decide +kernel
theorem dX5_takeByte_8 : decode cX5_takeByte 8 = .ok (.aload_n 0, 1) := by decide +kernel
theorem dX5_takeByte_9 : decode cX5_takeByte 9 = .ok (.dup, 1) := by decide +kernel
theorem dX5_takeByte_10 : decode cX5_takeByte 10 = .ok (.getfield 19, 3) := by decide +kernel
theorem dX5_takeByte_13 : decode cX5_takeByte 13 = .ok (.iconst 1, 1) := by decide +kernel
theorem dX5_takeByte_14 : decode cX5_takeByte 14 = .ok (.iadd, 1) := by decide +kernel
theorem dX5_takeByte_15 : decode cX5_takeByte 15 = .ok (.putfield 19, 3) := by decide +kernel
theorem dX5_takeByte_18 : decode cX5_takeByte 18 = .ok (.goto 8, 3) := by decide +kernel
theorem dX5_takeByte_21 : decode cX5_takeByte 21 = .ok (.aload_n 0, 1) := by decide +kernel
theorem dX5_takeByte_22 : decode cX5_takeByte 22 = .ok (.iconst 1, 1) := by decide +kernel
theorem dX5_takeByte_23 : decode cX5_takeByte 23 = .ok (.invokevirtual 35, 3) := by decide +kernel
theorem dX5_takeByte_26 : decode cX5_takeByte 26 = .ok (.return_, 1) := by decide +kernel
theorem dX5_takeNumber_0 : decode cX5_takeNumber 0 = .ok (.aload_n 0, 1) := by decide +kernel
theorem dX5_takeNumber_1 : decode cX5_takeNumber 1 = .ok (.invokevirtual 104, 3) := by decide +kernel
theorem dX5_takeNumber_4 : decode cX5_takeNumber 4 = .ok (.istore_n 3, 1) := by decide +kernel
theorem dX5_takeNumber_5 : decode cX5_takeNumber 5 = .ok (.aload_n 0, 1) := by decide +kernel
theorem dX5_takeNumber_6 : decode cX5_takeNumber 6 = .ok (.getfield 22, 3) := by decide +kernel
theorem dX5_takeNumber_9 : decode cX5_takeNumber 9 = .ok (.ifCond .ne 13, 3) := by decide +kernel
theorem dX5_takeNumber_12 : decode cX5_takeNumber 12 = .ok (.iload_n 3, 1) := by decide +kernel
theorem dX5_takeNumber_13 : decode cX5_takeNumber 13 = .ok (.iconst 1, 1) := by decide +kernel
theorem dX5_takeNumber_14 : decode cX5_takeNumber 14 = .ok (.if_icmp .lt 8, 3) := by decide +kernel
theorem dX5_takeNumber_17 : decode cX5_takeNumber 17 = .ok (.iload_n 3, 1) := by decide +kernel
theorem dX5_takeNumber_18 : decode cX5_takeNumber 18 = .ok (.iconst 2, 1) := by decide +kernel
theorem dX5_takeNumber_19 : decode cX5_takeNumber 19 = .ok (.if_icmp .le 10, 3) := by decide +kernel
theorem dX5_takeNumber_22 : decode cX5_takeNumber 22 = .ok (.aload_n 0, 1) := by decide +kernel
theorem dX5_takeNumber_23 : decode cX5_takeNumber 23 = .ok (.iconst 1, 1) := by decide +kernel
theorem dX5_takeNumber_24 : decode cX5_takeNumber 24 = .ok (.invokevirtual 35, 3) := by decide +kernel
theorem dX5_takeNumber_27 : decode cX5_takeNumber 27 = .ok (.iload_n 1, 1) := by decide +kernel
theorem dX5_takeNumber_28 : decode cX5_takeNumber 28 = .ok (.ireturn, 1) := by decide +kernel
theorem dX5_takeNumber_29 : decode cX5_takeNumber 29 = .ok (.iconst 0, 1) := by decide +kernel
theorem dX5_takeNumber_30 : decode cX5_takeNumber 30 = .ok (.istore 4, 2) := by decide +kernel
theorem dX5_takeNumber_32 : decode cX5_takeNumber 32 = .ok (.iconst 0, 1) := by decide +kernel
theorem dX5_takeNumber_33 : decode cX5_takeNumber 33 = .ok (.istore 5, 2) := by decide +kernel
theorem dX5_takeNumber_35 : decode cX5_takeNumber 35 = .ok (.iload 5, 2) := by decide +kernel
theorem dX5_takeNumber_37 : decode cX5_takeNumber 37 = .ok (.iload_n 3, 1) := by decide +kernel
theorem dX5_takeNumber_38 : decode cX5_takeNumber 38 = .ok (.if_icmp .ge 31, 3) := by decide +kernel
theorem dX5_takeNumber_41 : decode cX5_takeNumber 41 = .ok (.iload 4, 2) := by decide +kernel
theorem dX5_takeNumber_43 : decode cX5_takeNumber 43 = .ok (.bipush 10, 2) := by decide +kernel
theorem dX5_takeNumber_45 : decode cX5_takeNumber 45 = .ok (.imul, 1) := by decide +kernel
theorem dX5_takeNumber_46 : decode cX5_takeNumber 46 = .ok (.aload_n 0, 1) := by decide +kernel
theorem dX5_takeNumber_47 : decode cX5_takeNumber 47 = .ok (.aload_n 0, 1) := by decide +kernel
theorem dX5_takeNumber_48 : decode cX5_takeNumber 48 = .ok (.getfield 19, 3) := by decide +kernel
theorem dX5_takeNumber_51 : decode cX5_takeNumber 51 = .ok (.iload 5, 2) := by decide +kernel
theorem dX5_takeNumber_53 : decode cX5_takeNumber 53 = .ok (.iadd, 1) := by decide +kernel
theorem dX5_takeNumber_54 : decode cX5_takeNumber 54 = .ok (.invokevirtual 107, 3) := by decide +kernel
theorem dX5_takeNumber_57 : decode cX5_takeNumber 57 = .ok (.iadd, 1) := by decide +kernel
theorem dX5_takeNumber_58 : decode cX5_takeNumber 58 = .ok (.bipush 48, 2) := by decide +kernel
theorem dX5_takeNumber_60 : decode cX5_takeNumber 60 = .ok (.isub, 1) := by decide +kernel
theorem dX5_takeNumber_61 : decode cX5_takeNumber 61 = .ok (.istore 4, 2) := by decide +kernel
theorem dX5_takeNumber_63 : decode cX5_takeNumber 63 = .ok (.iinc 5 1, 3) := by decide +kernel
theorem dX5_takeNumber_66 : decode cX5_takeNumber 66 = .ok (.goto (-31), 3) := by decide +kernel
theorem dX5_takeNumber_69 : decode cX5_takeNumber 69 = .ok (.iload 4, 2) := by decide +kernel
theorem dX5_takeNumber_71 : decode cX5_takeNumber 71 = .ok (.iload_n 1, 1) := by decide +kernel
theorem dX5_takeNumber_72 : decode cX5_takeNumber 72 = .ok (.if_icmp .lt 9, 3) := by decide +kernel
theorem dX5_takeNumber_75 : decode cX5_takeNumber 75 = .ok (.iload 4, 2) := by decide +kernel
theorem dX5_takeNumber_77 : decode cX5_takeNumber 77 = .ok (.iload_n 2, 1) := by decide +kernel
theorem dX5_takeNumber_78 : decode cX5_takeNumber 78 = .ok (.if_icmp .le 10, 3) := by decide +kernel
theorem dX5_takeNumber_81 : decode cX5_takeNumber 81 = .ok (.aload_n 0, 1) := by decide +kernel
theorem dX5_takeNumber_82 : decode cX5_takeNumber 82 = .ok (.iconst 2, 1) := by decide +kernel
theorem dX5_takeNumber_83 : decode cX5_takeNumber 83 = .ok (.invokevirtual 35, 3) := by decide +kernel
theorem dX5_takeNumber_86 : decode cX5_takeNumber 86 = .ok (.iload_n 1, 1) := by decide +kernel
theorem dX5_takeNumber_87 : decode cX5_takeNumber 87 = .ok (.ireturn, 1) := by decide +kernel
theorem dX5_takeNumber_88 : decode cX5_takeNumber 88 = .ok (.aload_n 0, 1) := by decide +kernel
theorem dX5_takeNumber_89 : decode cX5_takeNumber 89 = .ok (.dup, 1) := by decide +kernel
theorem dX5_takeNumber_90 : decode cX5_takeNumber 90 = .ok (.getfield 19, 3) := by decide +kernel
theorem dX5_takeNumber_93 : decode cX5_takeNumber 93 = .ok (.iload_n 3, 1) := by decide +kernel
theorem dX5_takeNumber_94 : decode cX5_takeNumber 94 = .ok (.iadd, 1) := by decide +kernel
theorem dX5_takeNumber_95 : decode cX5_takeNumber 95 = .ok (.putfield 19, 3) := by decide +kernel
theorem dX5_takeNumber_98 : decode cX5_takeNumber 98 = .ok (.iload 4, 2) := by decide +kernel
theorem dX5_takeNumber_100 : decode cX5_takeNumber 100 = .ok (.ireturn, 1) := by decide +kernel
theorem dX5_sees_0 : decode cX5_sees 0 = .ok (.aload_n 0, 1) := by decide +kernel
theorem dX5_sees_1 : decode cX5_sees 1 = .ok (.getfield 22, 3) := by decide +kernel
theorem dX5_sees_4 : decode cX5_sees 4 = .ok (.ifCond .ne 15, 3) := by decide +kernel
theorem dX5_sees_7 : decode cX5_sees 7 = .ok (.aload_n 0, 1) := by decide +kernel
theorem dX5_sees_8 : decode cX5_sees 8 = .ok (.invokevirtual 77, 3) := by decide +kernel
theorem dX5_sees_11 : decode cX5_sees 11 = .ok (.iload_n 1, 1) := by decide +kernel
theorem dX5_sees_12 : decode cX5_sees 12 = .ok (.if_icmp .ne 7, 3) := by decide +kernel
theorem dX5_sees_15 : decode cX5_sees 15 = .ok (.iconst 1, 1) := by decide +kernel
theorem dX5_sees_16 : decode cX5_sees 16 = .ok (.goto 4, 3) := by decide +kernel
theorem dX5_sees_19 : decode cX5_sees 19 = .ok (.iconst 0, 1) := by decide +kernel
theorem dX5_sees_20 : decode cX5_sees 20 = .ok (.ireturn, 1) := by decide +kernel
theorem dX5_seesString_0 : decode cX5_seesString 0 = .ok (.aload_n 0, 1) := by decide +kernel
theorem dX5_seesString_1 : decode cX5_seesString 1 = .ok (.invokevirtual 77, 3) := by decide +kernel
theorem dX5_seesString_4 : decode cX5_seesString 4 = .ok (.bipush 97, 2) := by decide +kernel
theorem dX5_seesString_6 : decode cX5_seesString 6 = .ok (.isub, 1) := by decide +kernel
theorem dX5_seesString_7 : decode cX5_seesString 7 = .ok (.istore_n 2, 1) := by decide +kernel
theorem dX5_seesString_8 : decode cX5_seesString 8 = .ok (.aload_n 0, 1) := by decide +kernel
theorem dX5_seesString_9 : decode cX5_seesString 9 = .ok (.getfield 22, 3) := by decide +kernel
theorem dX5_seesString_12 : decode cX5_seesString 12 = .ok (.ifCond .ne 16, 3) := by decide +kernel
theorem dX5_seesString_15 : decode cX5_seesString 15 = .ok (.iload_n 2, 1) := by decide +kernel
theorem dX5_seesString_16 : decode cX5_seesString 16 = .ok (.ifCond .lt 12, 3) := by decide +kernel
theorem dX5_seesString_19 : decode cX5_seesString 19 = .ok (.iload_n 2, 1) := by decide +kernel
theorem dX5_seesString_20 : decode cX5_seesString 20 = .ok (.iload_n 1, 1) := by decide +kernel
theorem dX5_seesString_21 : decode cX5_seesString 21 = .ok (.if_icmp .ge 7, 3) := by decide +kernel
theorem dX5_seesString_24 : decode cX5_seesString 24 = .ok (.iconst 1, 1) := by decide +kernel
theorem dX5_seesString_25 : decode cX5_seesString 25 = .ok (.goto 4, 3) := by decide +kernel
theorem dX5_seesString_28 : decode cX5_seesString 28 = .ok (.iconst 0, 1) := by decide +kernel
theorem dX5_seesString_29 : decode cX5_seesString 29 = .ok (.ireturn, 1) := by decide +kernel
theorem dX5_seesSort_0 : decode cX5_seesSort 0 = .ok (.aload_n 0, 1) := by decide +kernel
theorem dX5_seesSort_1 : decode cX5_seesSort 1 = .ok (.getfield 22, 3) := by decide +kernel
theorem dX5_seesSort_4 : decode cX5_seesSort 4 = .ok (.ifCond .ne 17, 3) := by decide +kernel
theorem dX5_seesSort_7 : decode cX5_seesSort 7 = .ok (.aload_n 0, 1) := by decide +kernel
theorem dX5_seesSort_8 : decode cX5_seesSort 8 = .ok (.invokevirtual 77, 3) := by decide +kernel
theorem dX5_seesSort_11 : decode cX5_seesSort 11 = .ok (.invokestatic 94, 3) := by decide +kernel
theorem dX5_seesSort_14 : decode cX5_seesSort 14 = .ok (.ifCond .eq 7, 3) := by decide +kernel
theorem dX5_seesSort_17 : decode cX5_seesSort 17 = .ok (.iconst 1, 1) := by decide +kernel
theorem dX5_seesSort_18 : decode cX5_seesSort 18 = .ok (.goto 4, 3) := by decide +kernel
theorem dX5_seesSort_21 : decode cX5_seesSort 21 = .ok (.iconst 0, 1) := by decide +kernel
theorem dX5_seesSort_22 : decode cX5_seesSort 22 = .ok (.ireturn, 1) := by decide +kernel
theorem dX5_kindOfSort_0 : decode cX5_kindOfSort 0 = .ok (.iload_n 0, 1) := by decide +kernel
theorem dX5_kindOfSort_1 : decode cX5_kindOfSort 1 = .ok (.lookupswitch 61 #[(99, 57), (109, 59), (112, 51), (115, 55), (118, 53)], 51) := by decide +kernel
theorem dX5_kindOfSort_52 : decode cX5_kindOfSort 52 = .ok (.iconst 1, 1) := by decide +kernel
theorem dX5_kindOfSort_53 : decode cX5_kindOfSort 53 = .ok (.ireturn, 1) := by decide +kernel
theorem dX5_kindOfSort_54 : decode cX5_kindOfSort 54 = .ok (.iconst 2, 1) := by decide +kernel
theorem dX5_kindOfSort_55 : decode cX5_kindOfSort 55 = .ok (.ireturn, 1) := by decide +kernel
theorem dX5_kindOfSort_56 : decode cX5_kindOfSort 56 = .ok (.iconst 3, 1) := by decide +kernel
theorem dX5_kindOfSort_57 : decode cX5_kindOfSort 57 = .ok (.ireturn, 1) := by decide +kernel
theorem dX5_kindOfSort_58 : decode cX5_kindOfSort 58 = .ok (.iconst 4, 1) := by decide +kernel
theorem dX5_kindOfSort_59 : decode cX5_kindOfSort 59 = .ok (.ireturn, 1) := by decide +kernel
theorem dX5_kindOfSort_60 : decode cX5_kindOfSort 60 = .ok (.iconst 5, 1) := by decide +kernel
theorem dX5_kindOfSort_61 : decode cX5_kindOfSort 61 = .ok (.ireturn, 1) := by decide +kernel
theorem dX5_kindOfSort_62 : decode cX5_kindOfSort 62 = .ok (.iconst 0, 1) := by decide +kernel
theorem dX5_kindOfSort_63 : decode cX5_kindOfSort 63 = .ok (.ireturn, 1) := by decide +kernel
theorem dX5_figuresHere_0 : decode cX5_figuresHere 0 = .ok (.iconst 0, 1) := by decide +kernel
theorem dX5_figuresHere_1 : decode cX5_figuresHere 1 = .ok (.istore_n 1, 1) := by decide +kernel
theorem dX5_figuresHere_2 : decode cX5_figuresHere 2 = .ok (.iload_n 1, 1) := by decide +kernel
theorem dX5_figuresHere_3 : decode cX5_figuresHere 3 = .ok (.iconst 2, 1) := by decide +kernel
theorem dX5_figuresHere_4 : decode cX5_figuresHere 4 = .ok (.if_icmp .gt 25, 3) := by decide +kernel
theorem dX5_figuresHere_7 : decode cX5_figuresHere 7 = .ok (.aload_n 0, 1) := by decide +kernel
theorem dX5_figuresHere_8 : decode cX5_figuresHere 8 = .ok (.aload_n 0, 1) := by decide +kernel
theorem dX5_figuresHere_9 : decode cX5_figuresHere 9 = .ok (.getfield 19, 3) := by decide +kernel
theorem dX5_figuresHere_12 : decode cX5_figuresHere 12 = .ok (.iload_n 1, 1) := by decide +kernel
theorem dX5_figuresHere_13 : decode cX5_figuresHere 13 = .ok (.iadd, 1) := by decide +kernel
theorem dX5_figuresHere_14 : decode cX5_figuresHere 14 = .ok (.invokevirtual 107, 3) := by decide +kernel
theorem dX5_figuresHere_17 : decode cX5_figuresHere 17 = .ok (.invokestatic 110, 3) := by decide +kernel
theorem dX5_figuresHere_20 : decode cX5_figuresHere 20 = .ok (.ifCond .eq 9, 3) := by decide +kernel
theorem dX5_figuresHere_23 : decode cX5_figuresHere 23 = .ok (.iinc 1 1, 3) := by decide +kernel
theorem dX5_figuresHere_26 : decode cX5_figuresHere 26 = .ok (.goto (-24), 3) := by decide +kernel
theorem dX5_figuresHere_29 : decode cX5_figuresHere 29 = .ok (.iload_n 1, 1) := by decide +kernel
theorem dX5_figuresHere_30 : decode cX5_figuresHere 30 = .ok (.ireturn, 1) := by decide +kernel
theorem dX5_isFigure_0 : decode cX5_isFigure 0 = .ok (.iload_n 0, 1) := by decide +kernel
theorem dX5_isFigure_1 : decode cX5_isFigure 1 = .ok (.bipush 48, 2) := by decide +kernel
theorem dX5_isFigure_3 : decode cX5_isFigure 3 = .ok (.if_icmp .lt 13, 3) := by decide +kernel
theorem dX5_isFigure_6 : decode cX5_isFigure 6 = .ok (.iload_n 0, 1) := by decide +kernel
theorem dX5_isFigure_7 : decode cX5_isFigure 7 = .ok (.bipush 57, 2) := by decide +kernel
theorem dX5_isFigure_9 : decode cX5_isFigure 9 = .ok (.if_icmp .gt 7, 3) := by decide +kernel
theorem dX5_isFigure_12 : decode cX5_isFigure 12 = .ok (.iconst 1, 1) := by decide +kernel
theorem dX5_isFigure_13 : decode cX5_isFigure 13 = .ok (.goto 4, 3) := by decide +kernel
theorem dX5_isFigure_16 : decode cX5_isFigure 16 = .ok (.iconst 0, 1) := by decide +kernel
theorem dX5_isFigure_17 : decode cX5_isFigure 17 = .ok (.ireturn, 1) := by decide +kernel
theorem dX5_byteHere_0 : decode cX5_byteHere 0 = .ok (.aload_n 0, 1) := by decide +kernel
theorem dX5_byteHere_1 : decode cX5_byteHere 1 = .ok (.aload_n 0, 1) := by decide +kernel
theorem dX5_byteHere_2 : decode cX5_byteHere 2 = .ok (.getfield 19, 3) := by decide +kernel
theorem dX5_byteHere_5 : decode cX5_byteHere 5 = .ok (.invokevirtual 107, 3) := by decide +kernel
theorem dX5_byteHere_8 : decode cX5_byteHere 8 = .ok (.ireturn, 1) := by decide +kernel
theorem dX5_byteAt_0 : decode cX5_byteAt 0 = .ok (.iload_n 1, 1) := by decide +kernel
theorem dX5_byteAt_1 : decode cX5_byteAt 1 = .ok (.ifCond .lt 20, 3) := by decide +kernel
theorem dX5_byteAt_4 : decode cX5_byteAt 4 = .ok (.iload_n 1, 1) := by decide +kernel
theorem dX5_byteAt_5 : decode cX5_byteAt 5 = .ok (.aload_n 0, 1) := by decide +kernel
theorem dX5_byteAt_6 : decode cX5_byteAt 6 = .ok (.getfield 15, 3) := by decide +kernel
theorem dX5_byteAt_9 : decode cX5_byteAt 9 = .ok (.if_icmp .ge 12, 3) := by decide +kernel
theorem dX5_byteAt_12 : decode cX5_byteAt 12 = .ok (.aload_n 0, 1) := by decide +kernel
theorem dX5_byteAt_13 : decode cX5_byteAt 13 = .ok (.getfield 11, 3) := by decide +kernel
theorem dX5_byteAt_16 : decode cX5_byteAt 16 = .ok (.iload_n 1, 1) := by decide +kernel
theorem dX5_byteAt_17 : decode cX5_byteAt 17 = .ok (.iaload, 1) := by decide +kernel
theorem dX5_byteAt_18 : decode cX5_byteAt 18 = .ok (.goto 4, 3) := by decide +kernel
theorem dX5_byteAt_21 : decode cX5_byteAt 21 = .ok (.iconst (-1), 1) := by decide +kernel
theorem dX5_byteAt_22 : decode cX5_byteAt 22 = .ok (.ireturn, 1) := by decide +kernel
theorem dX5_refuse_0 : decode cX5_refuse 0 = .ok (.aload_n 0, 1) := by decide +kernel
theorem dX5_refuse_1 : decode cX5_refuse 1 = .ok (.getfield 22, 3) := by decide +kernel
theorem dX5_refuse_4 : decode cX5_refuse 4 = .ok (.ifCond .ne 21, 3) := by decide +kernel
theorem dX5_refuse_7 : decode cX5_refuse 7 = .ok (.aload_n 0, 1) := by decide +kernel
theorem dX5_refuse_8 : decode cX5_refuse 8 = .ok (.iload_n 1, 1) := by decide +kernel
theorem dX5_refuse_9 : decode cX5_refuse 9 = .ok (.putfield 22, 3) := by decide +kernel
theorem dX5_refuse_12 : decode cX5_refuse 12 = .ok (.aload_n 0, 1) := by decide +kernel
theorem dX5_refuse_13 : decode cX5_refuse 13 = .ok (.aload_n 0, 1) := by decide +kernel
theorem dX5_refuse_14 : decode cX5_refuse 14 = .ok (.getfield 19, 3) := by decide +kernel
theorem dX5_refuse_17 : decode cX5_refuse 17 = .ok (.putfield 113, 3) := by decide +kernel
theorem dX5_refuse_20 : decode cX5_refuse 20 = .ok (.aload_n 0, 1) := by decide +kernel
theorem dX5_refuse_21 : decode cX5_refuse 21 = .ok (.iload_n 1, 1) := by decide +kernel
theorem dX5_refuse_22 : decode cX5_refuse 22 = .ok (.putfield 116, 3) := by decide +kernel
theorem dX5_refuse_25 : decode cX5_refuse 25 = .ok (.return_, 1) := by decide +kernel
theorem dX6_init_0 : decode cX6_init 0 = .ok (.aload_n 0, 1) := by decide +kernel
theorem dX6_init_1 : decode cX6_init 1 = .ok (.invokespecial 1, 3) := by decide +kernel
theorem dX6_init_4 : decode cX6_init 4 = .ok (.aload_n 0, 1) := by decide +kernel
theorem dX6_init_5 : decode cX6_init 5 = .ok (.bipush 8, 2) := by decide +kernel
theorem dX6_init_7 : decode cX6_init 7 = .ok (.anewarray 9, 3) := by decide +kernel
theorem dX6_init_10 : decode cX6_init 10 = .ok (.putfield 11, 3) := by decide +kernel
theorem dX6_init_13 : decode cX6_init 13 = .ok (.iconst 0, 1) := by decide +kernel
theorem dX6_init_14 : decode cX6_init 14 = .ok (.istore_n 1, 1) := by decide +kernel
theorem dX6_init_15 : decode cX6_init 15 = .ok (.iload_n 1, 1) := by decide +kernel
theorem dX6_init_16 : decode cX6_init 16 = .ok (.bipush 8, 2) := by decide +kernel
theorem dX6_init_18 : decode cX6_init 18 = .ok (.if_icmp .ge 22, 3) := by decide +kernel
theorem dX6_init_21 : decode cX6_init 21 = .ok (.aload_n 0, 1) := by decide +kernel
theorem dX6_init_22 : decode cX6_init 22 = .ok (.getfield 11, 3) := by decide +kernel
theorem dX6_init_25 : decode cX6_init 25 = .ok (.iload_n 1, 1) := by decide +kernel
theorem dX6_init_26 : decode cX6_init 26 = .ok (.new 9, 3) := by decide +kernel
theorem dX6_init_29 : decode cX6_init 29 = .ok (.dup, 1) := by decide +kernel
theorem dX6_init_30 : decode cX6_init 30 = .ok (.invokespecial 15, 3) := by decide +kernel
theorem dX6_init_33 : decode cX6_init 33 = .ok (.aastore, 1) := by decide +kernel
theorem dX6_init_34 : decode cX6_init 34 = .ok (.iinc 1 1, 3) := by decide +kernel
theorem dX6_init_37 : decode cX6_init 37 = .ok (.goto (-22), 3) := by decide +kernel
theorem dX6_init_40 : decode cX6_init 40 = .ok (.aload_n 0, 1) := by decide +kernel
theorem dX6_init_41 : decode cX6_init 41 = .ok (.iconst 2, 1) := by decide +kernel
theorem dX6_init_42 : decode cX6_init 42 = .ok (.anewarray 16, 3) := by decide +kernel
theorem dX6_init_45 : decode cX6_init 45 = .ok (.putfield 18, 3) := by decide +kernel
theorem dX6_init_48 : decode cX6_init 48 = .ok (.iconst 0, 1) := by decide +kernel
theorem dX6_init_49 : decode cX6_init 49 = .ok (.istore_n 1, 1) := by decide +kernel
theorem dX6_init_50 : decode cX6_init 50 = .ok (.iload_n 1, 1) := by decide +kernel
theorem dX6_init_51 : decode cX6_init 51 = .ok (.iconst 2, 1) := by decide +kernel
theorem dX6_init_52 : decode cX6_init 52 = .ok (.if_icmp .ge 22, 3) := by decide +kernel
theorem dX6_init_55 : decode cX6_init 55 = .ok (.aload_n 0, 1) := by decide +kernel
theorem dX6_init_56 : decode cX6_init 56 = .ok (.getfield 18, 3) := by decide +kernel
theorem dX6_init_59 : decode cX6_init 59 = .ok (.iload_n 1, 1) := by decide +kernel
theorem dX6_init_60 : decode cX6_init 60 = .ok (.new 16, 3) := by decide +kernel
theorem dX6_init_63 : decode cX6_init 63 = .ok (.dup, 1) := by decide +kernel
theorem dX6_init_64 : decode cX6_init 64 = .ok (.invokespecial 22, 3) := by decide +kernel
theorem dX6_init_67 : decode cX6_init 67 = .ok (.aastore, 1) := by decide +kernel
theorem dX6_init_68 : decode cX6_init 68 = .ok (.iinc 1 1, 3) := by decide +kernel
theorem dX6_init_71 : decode cX6_init 71 = .ok (.goto (-21), 3) := by decide +kernel
theorem dX6_init_74 : decode cX6_init 74 = .ok (.aload_n 0, 1) := by decide +kernel
theorem dX6_init_75 : decode cX6_init 75 = .ok (.new 23, 3) := by decide +kernel
theorem dX6_init_78 : decode cX6_init 78 = .ok (.dup, 1) := by decide +kernel
theorem dX6_init_79 : decode cX6_init 79 = .ok (.invokespecial 25, 3) := by decide +kernel
theorem dX6_init_82 : decode cX6_init 82 = .ok (.putfield 26, 3) := by decide +kernel
theorem dX6_init_85 : decode cX6_init 85 = .ok (.aload_n 0, 1) := by decide +kernel
theorem dX6_init_86 : decode cX6_init 86 = .ok (.new 16, 3) := by decide +kernel
theorem dX6_init_89 : decode cX6_init 89 = .ok (.dup, 1) := by decide +kernel
theorem dX6_init_90 : decode cX6_init 90 = .ok (.invokespecial 22, 3) := by decide +kernel
theorem dX6_init_93 : decode cX6_init 93 = .ok (.putfield 30, 3) := by decide +kernel
theorem dX6_init_96 : decode cX6_init 96 = .ok (.aload_n 0, 1) := by decide +kernel
theorem dX6_init_97 : decode cX6_init 97 = .ok (.new 16, 3) := by decide +kernel
theorem dX6_init_100 : decode cX6_init 100 = .ok (.dup, 1) := by decide +kernel
theorem dX6_init_101 : decode cX6_init 101 = .ok (.invokespecial 22, 3) := by decide +kernel
theorem dX6_init_104 : decode cX6_init 104 = .ok (.putfield 34, 3) := by decide +kernel
theorem dX6_init_107 : decode cX6_init 107 = .ok (.aload_n 0, 1) := by decide +kernel
theorem dX6_init_108 : decode cX6_init 108 = .ok (.new 37, 3) := by decide +kernel
theorem dX6_init_111 : decode cX6_init 111 = .ok (.dup, 1) := by decide +kernel
theorem dX6_init_112 : decode cX6_init 112 = .ok (.invokespecial 39, 3) := by decide +kernel
theorem dX6_init_115 : decode cX6_init 115 = .ok (.putfield 40, 3) := by decide +kernel
theorem dX6_init_118 : decode cX6_init 118 = .ok (.aload_n 0, 1) := by decide +kernel
theorem dX6_init_119 : decode cX6_init 119 = .ok (.new 44, 3) := by decide +kernel
theorem dX6_init_122 : decode cX6_init 122 = .ok (.dup, 1) := by decide +kernel
theorem dX6_init_123 : decode cX6_init 123 = .ok (.aload_n 0, 1) := by decide +kernel
theorem dX6_init_124 : decode cX6_init 124 = .ok (.getfield 30, 3) := by decide +kernel
theorem dX6_init_127 : decode cX6_init 127 = .ok (.invokespecial 46, 3) := by decide +kernel
theorem dX6_init_130 : decode cX6_init 130 = .ok (.putfield 49, 3) := by decide +kernel
theorem dX6_init_133 : decode cX6_init 133 = .ok (.aload_n 0, 1) := by decide +kernel
theorem dX6_init_134 : decode cX6_init 134 = .ok (.new 53, 3) := by decide +kernel
theorem dX6_init_137 : decode cX6_init 137 = .ok (.dup, 1) := by decide +kernel
theorem dX6_init_138 : decode cX6_init 138 = .ok (.invokespecial 55, 3) := by decide +kernel
theorem dX6_init_141 : decode cX6_init 141 = .ok (.putfield 56, 3) := by decide +kernel
theorem dX6_init_144 : decode cX6_init 144 = .ok (.return_, 1) := by decide +kernel
theorem dX6_row_0 : decode cX6_row 0 = .ok (.iload_n 1, 1) := by decide +kernel
theorem dX6_row_1 : decode cX6_row 1 = .ok (.invokestatic 60, 3) := by decide +kernel
theorem dX6_row_4 : decode cX6_row 4 = .ok (.ifCond .eq 16, 3) := by decide +kernel
theorem dX6_row_7 : decode cX6_row 7 = .ok (.iload_n 2, 1) := by decide +kernel
theorem dX6_row_8 : decode cX6_row 8 = .ok (.invokestatic 64, 3) := by decide +kernel
theorem dX6_row_11 : decode cX6_row 11 = .ok (.ifCond .eq 9, 3) := by decide +kernel
theorem dX6_row_14 : decode cX6_row 14 = .ok (.iload_n 3, 1) := by decide +kernel
theorem dX6_row_15 : decode cX6_row 15 = .ok (.bipush 40, 2) := by decide +kernel
theorem dX6_row_17 : decode cX6_row 17 = .ok (.if_icmp .le 6, 3) := by decide +kernel
theorem dX6_row_20 : decode cX6_row 20 = .ok (.ldc 67, 2) := by decide +kernel
theorem dX6_row_22 : decode cX6_row 22 = .ok (.ireturn, 1) := by decide +kernel
theorem dX6_row_23 : decode cX6_row 23 = .ok (.iload_n 3, 1) := by decide +kernel
theorem dX6_row_24 : decode cX6_row 24 = .ok (.ifCond .ge 9, 3) := by decide +kernel
theorem dX6_row_27 : decode cX6_row 27 = .ok (.aload_n 0, 1) := by decide +kernel
theorem dX6_row_28 : decode cX6_row 28 = .ok (.iconst 4, 1) := by decide +kernel
theorem dX6_row_29 : decode cX6_row 29 = .ok (.invokevirtual 68, 3) := by decide +kernel
theorem dX6_row_32 : decode cX6_row 32 = .ok (.ireturn, 1) := by decide +kernel
theorem dX6_row_33 : decode cX6_row 33 = .ok (.aload_n 0, 1) := by decide +kernel
theorem dX6_row_34 : decode cX6_row 34 = .ok (.getfield 11, 3) := by decide +kernel
theorem dX6_row_37 : decode cX6_row 37 = .ok (.iload_n 1, 1) := by decide +kernel
theorem dX6_row_38 : decode cX6_row 38 = .ok (.aaload, 1) := by decide +kernel
theorem dX6_row_39 : decode cX6_row 39 = .ok (.iload_n 2, 1) := by decide +kernel
theorem dX6_row_40 : decode cX6_row 40 = .ok (.iload_n 3, 1) := by decide +kernel
theorem dX6_row_41 : decode cX6_row 41 = .ok (.invokevirtual 72, 3) := by decide +kernel
theorem dX6_row_44 : decode cX6_row 44 = .ok (.aload_n 0, 1) := by decide +kernel
theorem dX6_row_45 : decode cX6_row 45 = .ok (.iload_n 3, 1) := by decide +kernel
theorem dX6_row_46 : decode cX6_row 46 = .ok (.invokevirtual 76, 3) := by decide +kernel
theorem dX6_row_49 : decode cX6_row 49 = .ok (.ireturn, 1) := by decide +kernel
theorem dX6_set_0 : decode cX6_set 0 = .ok (.iload_n 1, 1) := by decide +kernel
theorem dX6_set_1 : decode cX6_set 1 = .ok (.invokestatic 60, 3) := by decide +kernel
theorem dX6_set_4 : decode cX6_set 4 = .ok (.ifCond .ne 6, 3) := by decide +kernel
theorem dX6_set_7 : decode cX6_set 7 = .ok (.ldc 67, 2) := by decide +kernel
theorem dX6_set_9 : decode cX6_set 9 = .ok (.ireturn, 1) := by decide +kernel
theorem dX6_set_10 : decode cX6_set 10 = .ok (.aload_n 0, 1) := by decide +kernel
theorem dX6_set_11 : decode cX6_set 11 = .ok (.getfield 11, 3) := by decide +kernel
theorem dX6_set_14 : decode cX6_set 14 = .ok (.iload_n 1, 1) := by decide +kernel
theorem dX6_set_15 : decode cX6_set 15 = .ok (.aaload, 1) := by decide +kernel
theorem dX6_set_16 : decode cX6_set 16 = .ok (.invokevirtual 79, 3) := by decide +kernel
theorem dX6_set_19 : decode cX6_set 19 = .ok (.ifCond .eq 9, 3) := by decide +kernel
theorem dX6_set_22 : decode cX6_set 22 = .ok (.aload_n 0, 1) := by decide +kernel
theorem dX6_set_23 : decode cX6_set 23 = .ok (.iconst 1, 1) := by decide +kernel
theorem dX6_set_24 : decode cX6_set 24 = .ok (.invokevirtual 68, 3) := by decide +kernel
theorem dX6_set_27 : decode cX6_set 27 = .ok (.ireturn, 1) := by decide +kernel
theorem dX6_set_28 : decode cX6_set 28 = .ok (.aload_n 0, 1) := by decide +kernel
theorem dX6_set_29 : decode cX6_set 29 = .ok (.getfield 11, 3) := by decide +kernel
theorem dX6_set_32 : decode cX6_set 32 = .ok (.iload_n 1, 1) := by decide +kernel
theorem dX6_set_33 : decode cX6_set 33 = .ok (.aaload, 1) := by decide +kernel
theorem dX6_set_34 : decode cX6_set 34 = .ok (.iload_n 2, 1) := by decide +kernel
theorem dX6_set_35 : decode cX6_set 35 = .ok (.iconst 1, 1) := by decide +kernel
theorem dX6_set_36 : decode cX6_set 36 = .ok (.invokevirtual 83, 3) := by decide +kernel
theorem dX6_set_39 : decode cX6_set 39 = .ok (.ifCond .ne 9, 3) := by decide +kernel
theorem dX6_set_42 : decode cX6_set 42 = .ok (.aload_n 0, 1) := by decide +kernel
theorem dX6_set_43 : decode cX6_set 43 = .ok (.iconst 2, 1) := by decide +kernel
theorem dX6_set_44 : decode cX6_set 44 = .ok (.invokevirtual 68, 3) := by decide +kernel
theorem dX6_set_47 : decode cX6_set 47 = .ok (.ireturn, 1) := by decide +kernel
theorem dX6_set_48 : decode cX6_set 48 = .ok (.aload_n 0, 1) := by decide +kernel
theorem dX6_set_49 : decode cX6_set 49 = .ok (.aload_n 0, 1) := by decide +kernel
theorem dX6_set_50 : decode cX6_set 50 = .ok (.getfield 11, 3) := by decide +kernel
theorem dX6_set_53 : decode cX6_set 53 = .ok (.iload_n 1, 1) := by decide +kernel
theorem dX6_set_54 : decode cX6_set 54 = .ok (.aaload, 1) := by decide +kernel
theorem dX6_set_55 : decode cX6_set 55 = .ok (.iload_n 2, 1) := by decide +kernel
theorem dX6_set_56 : decode cX6_set 56 = .ok (.iload_n 3, 1) := by decide +kernel
theorem dX6_set_57 : decode cX6_set 57 = .ok (.invokevirtual 87, 3) := by decide +kernel
theorem dX6_set_60 : decode cX6_set 60 = .ok (.invokevirtual 76, 3) := by decide +kernel
theorem dX6_set_63 : decode cX6_set 63 = .ok (.ireturn, 1) := by decide +kernel
theorem dX6_copy_0 : decode cX6_copy 0 = .ok (.iload_n 1, 1) := by decide +kernel
theorem dX6_copy_1 : decode cX6_copy 1 = .ok (.invokestatic 60, 3) := by decide +kernel
theorem dX6_copy_4 : decode cX6_copy 4 = .ok (.ifCond .eq 10, 3) := by decide +kernel
theorem dX6_copy_7 : decode cX6_copy 7 = .ok (.iload_n 3, 1) := by decide +kernel
theorem dX6_copy_8 : decode cX6_copy 8 = .ok (.invokestatic 60, 3) := by decide +kernel
theorem dX6_copy_11 : decode cX6_copy 11 = .ok (.ifCond .ne 6, 3) := by decide +kernel
theorem dX6_copy_14 : decode cX6_copy 14 = .ok (.ldc 67, 2) := by decide +kernel
theorem dX6_copy_16 : decode cX6_copy 16 = .ok (.ireturn, 1) := by decide +kernel
theorem dX6_copy_17 : decode cX6_copy 17 = .ok (.aload_n 0, 1) := by decide +kernel
theorem dX6_copy_18 : decode cX6_copy 18 = .ok (.getfield 11, 3) := by decide +kernel
theorem dX6_copy_21 : decode cX6_copy 21 = .ok (.iload_n 1, 1) := by decide +kernel
theorem dX6_copy_22 : decode cX6_copy 22 = .ok (.aaload, 1) := by decide +kernel
theorem dX6_copy_23 : decode cX6_copy 23 = .ok (.invokevirtual 79, 3) := by decide +kernel
theorem dX6_copy_26 : decode cX6_copy 26 = .ok (.ifCond .ne 15, 3) := by decide +kernel
theorem dX6_copy_29 : decode cX6_copy 29 = .ok (.aload_n 0, 1) := by decide +kernel
theorem dX6_copy_30 : decode cX6_copy 30 = .ok (.getfield 11, 3) := by decide +kernel
theorem dX6_copy_33 : decode cX6_copy 33 = .ok (.iload_n 3, 1) := by decide +kernel
theorem dX6_copy_34 : decode cX6_copy 34 = .ok (.aaload, 1) := by decide +kernel
theorem dX6_copy_35 : decode cX6_copy 35 = .ok (.invokevirtual 79, 3) := by decide +kernel
theorem dX6_copy_38 : decode cX6_copy 38 = .ok (.ifCond .eq 9, 3) := by decide +kernel
theorem dX6_copy_41 : decode cX6_copy 41 = .ok (.aload_n 0, 1) := by decide +kernel
theorem dX6_copy_42 : decode cX6_copy 42 = .ok (.iconst 1, 1) := by decide +kernel
theorem dX6_copy_43 : decode cX6_copy 43 = .ok (.invokevirtual 68, 3) := by decide +kernel
theorem dX6_copy_46 : decode cX6_copy 46 = .ok (.ireturn, 1) := by decide +kernel
theorem dX6_copy_47 : decode cX6_copy 47 = .ok (.aload_n 0, 1) := by decide +kernel
theorem dX6_copy_48 : decode cX6_copy 48 = .ok (.getfield 11, 3) := by decide +kernel
theorem dX6_copy_51 : decode cX6_copy 51 = .ok (.iload_n 1, 1) := by decide +kernel
theorem dX6_copy_52 : decode cX6_copy 52 = .ok (.aaload, 1) := by decide +kernel
theorem dX6_copy_53 : decode cX6_copy 53 = .ok (.getfield 91, 3) := by decide +kernel
theorem dX6_copy_56 : decode cX6_copy 56 = .ok (.aload_n 0, 1) := by decide +kernel
theorem dX6_copy_57 : decode cX6_copy 57 = .ok (.getfield 11, 3) := by decide +kernel
theorem dX6_copy_60 : decode cX6_copy 60 = .ok (.iload_n 3, 1) := by decide +kernel
theorem dX6_copy_61 : decode cX6_copy 61 = .ok (.aaload, 1) := by decide +kernel
theorem dX6_copy_62 : decode cX6_copy 62 = .ok (.getfield 91, 3) := by decide +kernel
theorem dX6_copy_65 : decode cX6_copy 65 = .ok (.if_icmp .eq 9, 3) := by decide +kernel
theorem dX6_copy_68 : decode cX6_copy 68 = .ok (.aload_n 0, 1) := by decide +kernel
theorem dX6_copy_69 : decode cX6_copy 69 = .ok (.iconst 5, 1) := by decide +kernel
theorem dX6_copy_70 : decode cX6_copy 70 = .ok (.invokevirtual 68, 3) := by decide +kernel
theorem dX6_copy_73 : decode cX6_copy 73 = .ok (.ireturn, 1) := by decide +kernel
theorem dX6_copy_74 : decode cX6_copy 74 = .ok (.aload_n 0, 1) := by decide +kernel
theorem dX6_copy_75 : decode cX6_copy 75 = .ok (.getfield 11, 3) := by decide +kernel
theorem dX6_copy_78 : decode cX6_copy 78 = .ok (.iload_n 1, 1) := by decide +kernel
theorem dX6_copy_79 : decode cX6_copy 79 = .ok (.aaload, 1) := by decide +kernel
theorem dX6_copy_80 : decode cX6_copy 80 = .ok (.iload_n 2, 1) := by decide +kernel
theorem dX6_copy_81 : decode cX6_copy 81 = .ok (.iload 5, 2) := by decide +kernel
theorem dX6_copy_83 : decode cX6_copy 83 = .ok (.invokevirtual 83, 3) := by decide +kernel
theorem dX6_copy_86 : decode cX6_copy 86 = .ok (.ifCond .eq 19, 3) := by decide +kernel
theorem dX6_copy_89 : decode cX6_copy 89 = .ok (.aload_n 0, 1) := by decide +kernel
theorem dX6_copy_90 : decode cX6_copy 90 = .ok (.getfield 11, 3) := by decide +kernel
theorem dX6_copy_93 : decode cX6_copy 93 = .ok (.iload_n 3, 1) := by decide +kernel
theorem dX6_copy_94 : decode cX6_copy 94 = .ok (.aaload, 1) := by decide +kernel
theorem dX6_copy_95 : decode cX6_copy 95 = .ok (.iload 4, 2) := by decide +kernel
theorem dX6_copy_97 : decode cX6_copy 97 = .ok (.iload 5, 2) := by decide +kernel
theorem dX6_copy_99 : decode cX6_copy 99 = .ok (.invokevirtual 83, 3) := by decide +kernel
theorem dX6_copy_102 : decode cX6_copy 102 = .ok (.ifCond .ne 9, 3) := by decide +kernel
theorem dX6_copy_105 : decode cX6_copy 105 = .ok (.aload_n 0, 1) := by decide +kernel
theorem dX6_copy_106 : decode cX6_copy 106 = .ok (.iconst 2, 1) := by decide +kernel
theorem dX6_copy_107 : decode cX6_copy 107 = .ok (.invokevirtual 68, 3) := by decide +kernel
theorem dX6_copy_110 : decode cX6_copy 110 = .ok (.ireturn, 1) := by decide +kernel
theorem dX6_copy_111 : decode cX6_copy 111 = .ok (.aload_n 0, 1) := by decide +kernel
theorem dX6_copy_112 : decode cX6_copy 112 = .ok (.getfield 11, 3) := by decide +kernel
theorem dX6_copy_115 : decode cX6_copy 115 = .ok (.iload_n 1, 1) := by decide +kernel
theorem dX6_copy_116 : decode cX6_copy 116 = .ok (.aaload, 1) := by decide +kernel
theorem dX6_copy_117 : decode cX6_copy 117 = .ok (.getfield 95, 3) := by decide +kernel
theorem dX6_copy_120 : decode cX6_copy 120 = .ok (.iload_n 2, 1) := by decide +kernel
theorem dX6_copy_121 : decode cX6_copy 121 = .ok (.aload_n 0, 1) := by decide +kernel
theorem dX6_copy_122 : decode cX6_copy 122 = .ok (.getfield 11, 3) := by decide +kernel
theorem dX6_copy_125 : decode cX6_copy 125 = .ok (.iload_n 3, 1) := by decide +kernel
theorem dX6_copy_126 : decode cX6_copy 126 = .ok (.aaload, 1) := by decide +kernel
theorem dX6_copy_127 : decode cX6_copy 127 = .ok (.getfield 95, 3) := by decide +kernel
theorem dX6_copy_130 : decode cX6_copy 130 = .ok (.iload 4, 2) := by decide +kernel
theorem dX6_copy_132 : decode cX6_copy 132 = .ok (.iload 5, 2) := by decide +kernel
theorem dX6_copy_134 : decode cX6_copy 134 = .ok (.invokestatic 99, 3) := by decide +kernel
theorem dX6_copy_137 : decode cX6_copy 137 = .ok (.aload_n 0, 1) := by decide +kernel
theorem dX6_copy_138 : decode cX6_copy 138 = .ok (.iload 5, 2) := by decide +kernel
theorem dX6_copy_140 : decode cX6_copy 140 = .ok (.invokevirtual 76, 3) := by decide +kernel
theorem dX6_copy_143 : decode cX6_copy 143 = .ok (.ireturn, 1) := by decide +kernel
theorem dX6_drop_0 : decode cX6_drop 0 = .ok (.iload_n 1, 1) := by decide +kernel
theorem dX6_drop_1 : decode cX6_drop 1 = .ok (.invokestatic 60, 3) := by decide +kernel
theorem dX6_drop_4 : decode cX6_drop 4 = .ok (.ifCond .ne 6, 3) := by decide +kernel
theorem dX6_drop_7 : decode cX6_drop 7 = .ok (.ldc 67, 2) := by decide +kernel
theorem dX6_drop_9 : decode cX6_drop 9 = .ok (.ireturn, 1) := by decide +kernel
theorem dX6_drop_10 : decode cX6_drop 10 = .ok (.aload_n 0, 1) := by decide +kernel
theorem dX6_drop_11 : decode cX6_drop 11 = .ok (.getfield 11, 3) := by decide +kernel
theorem dX6_drop_14 : decode cX6_drop 14 = .ok (.iload_n 1, 1) := by decide +kernel
theorem dX6_drop_15 : decode cX6_drop 15 = .ok (.aaload, 1) := by decide +kernel
theorem dX6_drop_16 : decode cX6_drop 16 = .ok (.invokevirtual 79, 3) := by decide +kernel
theorem dX6_drop_19 : decode cX6_drop 19 = .ok (.ifCond .eq 9, 3) := by decide +kernel
theorem dX6_drop_22 : decode cX6_drop 22 = .ok (.aload_n 0, 1) := by decide +kernel
theorem dX6_drop_23 : decode cX6_drop 23 = .ok (.iconst 1, 1) := by decide +kernel
theorem dX6_drop_24 : decode cX6_drop 24 = .ok (.invokevirtual 68, 3) := by decide +kernel
theorem dX6_drop_27 : decode cX6_drop 27 = .ok (.ireturn, 1) := by decide +kernel
theorem dX6_drop_28 : decode cX6_drop 28 = .ok (.aload_n 0, 1) := by decide +kernel
theorem dX6_drop_29 : decode cX6_drop 29 = .ok (.getfield 11, 3) := by decide +kernel
theorem dX6_drop_32 : decode cX6_drop 32 = .ok (.iload_n 1, 1) := by decide +kernel
theorem dX6_drop_33 : decode cX6_drop 33 = .ok (.aaload, 1) := by decide +kernel
theorem dX6_drop_34 : decode cX6_drop 34 = .ok (.getfield 105, 3) := by decide +kernel
theorem dX6_drop_37 : decode cX6_drop 37 = .ok (.istore_n 2, 1) := by decide +kernel
theorem dX6_drop_38 : decode cX6_drop 38 = .ok (.aload_n 0, 1) := by decide +kernel
theorem dX6_drop_39 : decode cX6_drop 39 = .ok (.getfield 11, 3) := by decide +kernel
theorem dX6_drop_42 : decode cX6_drop 42 = .ok (.iload_n 1, 1) := by decide +kernel
theorem dX6_drop_43 : decode cX6_drop 43 = .ok (.aaload, 1) := by decide +kernel
theorem dX6_drop_44 : decode cX6_drop 44 = .ok (.invokevirtual 108, 3) := by decide +kernel
theorem dX6_drop_47 : decode cX6_drop 47 = .ok (.aload_n 0, 1) := by decide +kernel
theorem dX6_drop_48 : decode cX6_drop 48 = .ok (.iload_n 2, 1) := by decide +kernel
theorem dX6_drop_49 : decode cX6_drop 49 = .ok (.invokevirtual 76, 3) := by decide +kernel
theorem dX6_drop_52 : decode cX6_drop 52 = .ok (.ireturn, 1) := by decide +kernel
theorem dX6_feed_0 : decode cX6_feed 0 = .ok (.iload_n 1, 1) := by decide +kernel
theorem dX6_feed_1 : decode cX6_feed 1 = .ok (.ifCond .lt 10, 3) := by decide +kernel
theorem dX6_feed_4 : decode cX6_feed 4 = .ok (.iload_n 1, 1) := by decide +kernel
theorem dX6_feed_5 : decode cX6_feed 5 = .ok (.sipush 255, 3) := by decide +kernel
theorem dX6_feed_8 : decode cX6_feed 8 = .ok (.if_icmp .le 6, 3) := by decide +kernel
theorem dX6_feed_11 : decode cX6_feed 11 = .ok (.ldc 67, 2) := by decide +kernel
theorem dX6_feed_13 : decode cX6_feed 13 = .ok (.ireturn, 1) := by decide +kernel
theorem dX6_feed_14 : decode cX6_feed 14 = .ok (.aload_n 0, 1) := by decide +kernel
theorem dX6_feed_15 : decode cX6_feed 15 = .ok (.getfield 26, 3) := by decide +kernel
theorem dX6_feed_18 : decode cX6_feed 18 = .ok (.invokevirtual 111, 3) := by decide +kernel
theorem dX6_feed_21 : decode cX6_feed 21 = .ok (.ifCond .eq 6, 3) := by decide +kernel
theorem dX6_feed_24 : decode cX6_feed 24 = .ok (.ldc 114, 2) := by decide +kernel
theorem dX6_feed_26 : decode cX6_feed 26 = .ok (.ireturn, 1) := by decide +kernel
theorem dX6_feed_27 : decode cX6_feed 27 = .ok (.aload_n 0, 1) := by decide +kernel
theorem dX6_feed_28 : decode cX6_feed 28 = .ok (.getfield 26, 3) := by decide +kernel
theorem dX6_feed_31 : decode cX6_feed 31 = .ok (.iload_n 1, 1) := by decide +kernel
theorem dX6_feed_32 : decode cX6_feed 32 = .ok (.invokevirtual 115, 3) := by decide +kernel
theorem dX6_feed_35 : decode cX6_feed 35 = .ok (.ireturn, 1) := by decide +kernel
theorem dX6_hall_0 : decode cX6_hall 0 = .ok (.aload_n 0, 1) := by decide +kernel
theorem dX6_hall_1 : decode cX6_hall 1 = .ok (.getfield 26, 3) := by decide +kernel
theorem dX6_hall_4 : decode cX6_hall 4 = .ok (.aload_n 0, 1) := by decide +kernel
theorem dX6_hall_5 : decode cX6_hall 5 = .ok (.getfield 34, 3) := by decide +kernel
theorem dX6_hall_8 : decode cX6_hall 8 = .ok (.invokevirtual 118, 3) := by decide +kernel
theorem dX6_hall_11 : decode cX6_hall 11 = .ok (.istore_n 1, 1) := by decide +kernel
theorem dX6_hall_12 : decode cX6_hall 12 = .ok (.aload_n 0, 1) := by decide +kernel
theorem dX6_hall_13 : decode cX6_hall 13 = .ok (.getfield 26, 3) := by decide +kernel
theorem dX6_hall_16 : decode cX6_hall 16 = .ok (.invokevirtual 122, 3) := by decide +kernel
theorem dX6_hall_19 : decode cX6_hall 19 = .ok (.iload_n 1, 1) := by decide +kernel
theorem dX6_hall_20 : decode cX6_hall 20 = .ok (.ifCond .ne 14, 3) := by decide +kernel
theorem dX6_hall_23 : decode cX6_hall 23 = .ok (.ldc 125, 2) := by decide +kernel
theorem dX6_hall_25 : decode cX6_hall 25 = .ok (.aload_n 0, 1) := by decide +kernel
theorem dX6_hall_26 : decode cX6_hall 26 = .ok (.getfield 26, 3) := by decide +kernel
theorem dX6_hall_29 : decode cX6_hall 29 = .ok (.getfield 126, 3) := by decide +kernel
theorem dX6_hall_32 : decode cX6_hall 32 = .ok (.isub, 1) := by decide +kernel
theorem dX6_hall_33 : decode cX6_hall 33 = .ok (.ireturn, 1) := by decide +kernel
theorem dX6_hall_34 : decode cX6_hall 34 = .ok (.aload_n 0, 1) := by decide +kernel
theorem dX6_hall_35 : decode cX6_hall 35 = .ok (.getfield 30, 3) := by decide +kernel
theorem dX6_hall_38 : decode cX6_hall 38 = .ok (.aload_n 0, 1) := by decide +kernel
theorem dX6_hall_39 : decode cX6_hall 39 = .ok (.getfield 34, 3) := by decide +kernel
theorem dX6_hall_42 : decode cX6_hall 42 = .ok (.invokevirtual 129, 3) := by decide +kernel
theorem dX6_hall_45 : decode cX6_hall 45 = .ok (.aload_n 0, 1) := by decide +kernel
theorem dX6_hall_46 : decode cX6_hall 46 = .ok (.getfield 40, 3) := by decide +kernel
theorem dX6_hall_49 : decode cX6_hall 49 = .ok (.invokevirtual 132, 3) := by decide +kernel
theorem dX6_hall_52 : decode cX6_hall 52 = .ok (.aload_n 0, 1) := by decide +kernel
theorem dX6_hall_53 : decode cX6_hall 53 = .ok (.getfield 30, 3) := by decide +kernel
theorem dX6_hall_56 : decode cX6_hall 56 = .ok (.getfield 133, 3) := by decide +kernel
theorem dX6_hall_59 : decode cX6_hall 59 = .ok (.ireturn, 1) := by decide +kernel
theorem dX6_fault_0 : decode cX6_fault 0 = .ok (.aload_n 0, 1) := by decide +kernel
theorem dX6_fault_1 : decode cX6_fault 1 = .ok (.getfield 26, 3) := by decide +kernel
theorem dX6_fault_4 : decode cX6_fault 4 = .ok (.getfield 136, 3) := by decide +kernel
theorem dX6_fault_7 : decode cX6_fault 7 = .ok (.ireturn, 1) := by decide +kernel
theorem dX6_undo_0 : decode cX6_undo 0 = .ok (.aload_n 0, 1) := by decide +kernel
theorem dX6_undo_1 : decode cX6_undo 1 = .ok (.getfield 40, 3) := by decide +kernel
theorem dX6_undo_4 : decode cX6_undo 4 = .ok (.getfield 139, 3) := by decide +kernel
theorem dX6_undo_7 : decode cX6_undo 7 = .ok (.ifCond .ne 6, 3) := by decide +kernel
theorem dX6_undo_10 : decode cX6_undo 10 = .ok (.ldc 142, 2) := by decide +kernel
theorem dX6_undo_12 : decode cX6_undo 12 = .ok (.ireturn, 1) := by decide +kernel
theorem dX6_undo_13 : decode cX6_undo 13 = .ok (.aload_n 0, 1) := by decide +kernel
theorem dX6_undo_14 : decode cX6_undo 14 = .ok (.getfield 40, 3) := by decide +kernel
theorem dX6_undo_17 : decode cX6_undo 17 = .ok (.aload_n 0, 1) := by decide +kernel
theorem dX6_undo_18 : decode cX6_undo 18 = .ok (.getfield 30, 3) := by decide +kernel
theorem dX6_undo_21 : decode cX6_undo 21 = .ok (.invokevirtual 143, 3) := by decide +kernel
theorem dX6_undo_24 : decode cX6_undo 24 = .ok (.aload_n 0, 1) := by decide +kernel
theorem dX6_undo_25 : decode cX6_undo 25 = .ok (.getfield 40, 3) := by decide +kernel
theorem dX6_undo_28 : decode cX6_undo 28 = .ok (.getfield 139, 3) := by decide +kernel
theorem dX6_undo_31 : decode cX6_undo 31 = .ok (.ireturn, 1) := by decide +kernel
theorem dX6_nights_0 : decode cX6_nights 0 = .ok (.aload_n 0, 1) := by decide +kernel
theorem dX6_nights_1 : decode cX6_nights 1 = .ok (.getfield 30, 3) := by decide +kernel
theorem dX6_nights_4 : decode cX6_nights 4 = .ok (.invokevirtual 146, 3) := by decide +kernel
theorem dX6_nights_7 : decode cX6_nights 7 = .ok (.ifCond .ne 6, 3) := by decide +kernel
theorem dX6_nights_10 : decode cX6_nights 10 = .ok (.ldc 142, 2) := by decide +kernel
theorem dX6_nights_12 : decode cX6_nights 12 = .ok (.ireturn, 1) := by decide +kernel
theorem dX6_nights_13 : decode cX6_nights 13 = .ok (.iload_n 1, 1) := by decide +kernel
theorem dX6_nights_14 : decode cX6_nights 14 = .ok (.iconst 1, 1) := by decide +kernel
theorem dX6_nights_15 : decode cX6_nights 15 = .ok (.if_icmp .lt 9, 3) := by decide +kernel
theorem dX6_nights_18 : decode cX6_nights 18 = .ok (.iload_n 1, 1) := by decide +kernel
theorem dX6_nights_19 : decode cX6_nights 19 = .ok (.bipush 24, 2) := by decide +kernel
theorem dX6_nights_21 : decode cX6_nights 21 = .ok (.if_icmp .le 6, 3) := by decide +kernel
theorem dX6_nights_24 : decode cX6_nights 24 = .ok (.ldc 67, 2) := by decide +kernel
theorem dX6_nights_26 : decode cX6_nights 26 = .ok (.ireturn, 1) := by decide +kernel
theorem dX6_nights_27 : decode cX6_nights 27 = .ok (.aload_n 0, 1) := by decide +kernel
theorem dX6_nights_28 : decode cX6_nights 28 = .ok (.getfield 30, 3) := by decide +kernel
theorem dX6_nights_31 : decode cX6_nights 31 = .ok (.getfield 149, 3) := by decide +kernel
theorem dX6_nights_34 : decode cX6_nights 34 = .ok (.iload_n 1, 1) := by decide +kernel
theorem dX6_nights_35 : decode cX6_nights 35 = .ok (.iadd, 1) := by decide +kernel
theorem dX6_nights_36 : decode cX6_nights 36 = .ok (.sipush 999, 3) := by decide +kernel
theorem dX6_nights_39 : decode cX6_nights 39 = .ok (.if_icmp .le 6, 3) := by decide +kernel
theorem dX6_nights_42 : decode cX6_nights 42 = .ok (.ldc 114, 2) := by decide +kernel
theorem dX6_nights_44 : decode cX6_nights 44 = .ok (.ireturn, 1) := by decide +kernel
theorem dX6_nights_45 : decode cX6_nights 45 = .ok (.iconst 0, 1) := by decide +kernel
theorem dX6_nights_46 : decode cX6_nights 46 = .ok (.istore_n 2, 1) := by decide +kernel
theorem dX6_nights_47 : decode cX6_nights 47 = .ok (.iload_n 2, 1) := by decide +kernel
theorem dX6_nights_48 : decode cX6_nights 48 = .ok (.iload_n 1, 1) := by decide +kernel
theorem dX6_nights_49 : decode cX6_nights 49 = .ok (.if_icmp .ge 53, 3) := by decide +kernel
theorem dX6_nights_52 : decode cX6_nights 52 = .ok (.aload_n 0, 1) := by decide +kernel
theorem dX6_nights_53 : decode cX6_nights 53 = .ok (.getfield 40, 3) := by decide +kernel
theorem dX6_nights_56 : decode cX6_nights 56 = .ok (.iconst 0, 1) := by decide +kernel
theorem dX6_nights_57 : decode cX6_nights 57 = .ok (.iconst 0, 1) := by decide +kernel
theorem dX6_nights_58 : decode cX6_nights 58 = .ok (.aload_n 0, 1) := by decide +kernel
theorem dX6_nights_59 : decode cX6_nights 59 = .ok (.getfield 30, 3) := by decide +kernel
theorem dX6_nights_62 : decode cX6_nights 62 = .ok (.getfield 152, 3) := by decide +kernel
theorem dX6_nights_65 : decode cX6_nights 65 = .ok (.invokevirtual 155, 3) := by decide +kernel
theorem dX6_nights_68 : decode cX6_nights 68 = .ok (.aload_n 0, 1) := by decide +kernel
theorem dX6_nights_69 : decode cX6_nights 69 = .ok (.getfield 30, 3) := by decide +kernel
theorem dX6_nights_72 : decode cX6_nights 72 = .ok (.dup, 1) := by decide +kernel
theorem dX6_nights_73 : decode cX6_nights 73 = .ok (.getfield 149, 3) := by decide +kernel
theorem dX6_nights_76 : decode cX6_nights 76 = .ok (.iconst 1, 1) := by decide +kernel
theorem dX6_nights_77 : decode cX6_nights 77 = .ok (.iadd, 1) := by decide +kernel
theorem dX6_nights_78 : decode cX6_nights 78 = .ok (.putfield 149, 3) := by decide +kernel
theorem dX6_nights_81 : decode cX6_nights 81 = .ok (.aload_n 0, 1) := by decide +kernel
theorem dX6_nights_82 : decode cX6_nights 82 = .ok (.getfield 30, 3) := by decide +kernel
theorem dX6_nights_85 : decode cX6_nights 85 = .ok (.aload_n 0, 1) := by decide +kernel
theorem dX6_nights_86 : decode cX6_nights 86 = .ok (.getfield 30, 3) := by decide +kernel
theorem dX6_nights_89 : decode cX6_nights 89 = .ok (.iconst 1, 1) := by decide +kernel
theorem dX6_nights_90 : decode cX6_nights 90 = .ok (.invokevirtual 159, 3) := by decide +kernel
theorem dX6_nights_93 : decode cX6_nights 93 = .ok (.putfield 152, 3) := by decide +kernel
theorem dX6_nights_96 : decode cX6_nights 96 = .ok (.iinc 2 1, 3) := by decide +kernel
theorem dX6_nights_99 : decode cX6_nights 99 = .ok (.goto (-52), 3) := by decide +kernel
theorem dX6_nights_102 : decode cX6_nights 102 = .ok (.aload_n 0, 1) := by decide +kernel
theorem dX6_nights_103 : decode cX6_nights 103 = .ok (.getfield 30, 3) := by decide +kernel
theorem dX6_nights_106 : decode cX6_nights 106 = .ok (.getfield 152, 3) := by decide +kernel
theorem dX6_nights_109 : decode cX6_nights 109 = .ok (.ireturn, 1) := by decide +kernel
theorem dX6_thunder_0 : decode cX6_thunder 0 = .ok (.aload_n 0, 1) := by decide +kernel
theorem dX6_thunder_1 : decode cX6_thunder 1 = .ok (.getfield 30, 3) := by decide +kernel
theorem dX6_thunder_4 : decode cX6_thunder 4 = .ok (.invokevirtual 146, 3) := by decide +kernel
theorem dX6_thunder_7 : decode cX6_thunder 7 = .ok (.ifCond .ne 6, 3) := by decide +kernel
theorem dX6_thunder_10 : decode cX6_thunder 10 = .ok (.ldc 142, 2) := by decide +kernel
theorem dX6_thunder_12 : decode cX6_thunder 12 = .ok (.ireturn, 1) := by decide +kernel
theorem dX6_thunder_13 : decode cX6_thunder 13 = .ok (.iload_n 1, 1) := by decide +kernel
theorem dX6_thunder_14 : decode cX6_thunder 14 = .ok (.iconst 1, 1) := by decide +kernel
theorem dX6_thunder_15 : decode cX6_thunder 15 = .ok (.if_icmp .lt 9, 3) := by decide +kernel
theorem dX6_thunder_18 : decode cX6_thunder 18 = .ok (.iload_n 1, 1) := by decide +kernel
theorem dX6_thunder_19 : decode cX6_thunder 19 = .ok (.bipush 11, 2) := by decide +kernel
theorem dX6_thunder_21 : decode cX6_thunder 21 = .ok (.if_icmp .le 6, 3) := by decide +kernel
theorem dX6_thunder_24 : decode cX6_thunder 24 = .ok (.ldc 67, 2) := by decide +kernel
theorem dX6_thunder_26 : decode cX6_thunder 26 = .ok (.ireturn, 1) := by decide +kernel
theorem dX6_thunder_27 : decode cX6_thunder 27 = .ok (.aload_n 0, 1) := by decide +kernel
theorem dX6_thunder_28 : decode cX6_thunder 28 = .ok (.getfield 40, 3) := by decide +kernel
theorem dX6_thunder_31 : decode cX6_thunder 31 = .ok (.iconst 1, 1) := by decide +kernel
theorem dX6_thunder_32 : decode cX6_thunder 32 = .ok (.iconst 0, 1) := by decide +kernel
theorem dX6_thunder_33 : decode cX6_thunder 33 = .ok (.aload_n 0, 1) := by decide +kernel
theorem dX6_thunder_34 : decode cX6_thunder 34 = .ok (.getfield 30, 3) := by decide +kernel
theorem dX6_thunder_37 : decode cX6_thunder 37 = .ok (.getfield 152, 3) := by decide +kernel
theorem dX6_thunder_40 : decode cX6_thunder 40 = .ok (.invokevirtual 155, 3) := by decide +kernel
theorem dX6_thunder_43 : decode cX6_thunder 43 = .ok (.aload_n 0, 1) := by decide +kernel
theorem dX6_thunder_44 : decode cX6_thunder 44 = .ok (.getfield 30, 3) := by decide +kernel
theorem dX6_thunder_47 : decode cX6_thunder 47 = .ok (.aload_n 0, 1) := by decide +kernel
theorem dX6_thunder_48 : decode cX6_thunder 48 = .ok (.getfield 30, 3) := by decide +kernel
theorem dX6_thunder_51 : decode cX6_thunder 51 = .ok (.aload_n 0, 1) := by decide +kernel
theorem dX6_thunder_52 : decode cX6_thunder 52 = .ok (.getfield 30, 3) := by decide +kernel
theorem dX6_thunder_55 : decode cX6_thunder 55 = .ok (.getfield 152, 3) := by decide +kernel
theorem dX6_thunder_58 : decode cX6_thunder 58 = .ok (.iload_n 1, 1) := by decide +kernel
theorem dX6_thunder_59 : decode cX6_thunder 59 = .ok (.iadd, 1) := by decide +kernel
theorem dX6_thunder_60 : decode cX6_thunder 60 = .ok (.invokevirtual 162, 3) := by decide +kernel
theorem dX6_thunder_63 : decode cX6_thunder 63 = .ok (.putfield 152, 3) := by decide +kernel
theorem dX6_thunder_66 : decode cX6_thunder 66 = .ok (.aload_n 0, 1) := by decide +kernel
theorem dX6_thunder_67 : decode cX6_thunder 67 = .ok (.getfield 30, 3) := by decide +kernel
theorem dX6_thunder_70 : decode cX6_thunder 70 = .ok (.getfield 152, 3) := by decide +kernel
theorem dX6_thunder_73 : decode cX6_thunder 73 = .ok (.ireturn, 1) := by decide +kernel
theorem dX6_tune_0 : decode cX6_tune 0 = .ok (.aload_n 0, 1) := by decide +kernel
theorem dX6_tune_1 : decode cX6_tune 1 = .ok (.getfield 30, 3) := by decide +kernel
theorem dX6_tune_4 : decode cX6_tune 4 = .ok (.invokevirtual 146, 3) := by decide +kernel
theorem dX6_tune_7 : decode cX6_tune 7 = .ok (.ifCond .ne 6, 3) := by decide +kernel
theorem dX6_tune_10 : decode cX6_tune 10 = .ok (.ldc 142, 2) := by decide +kernel
theorem dX6_tune_12 : decode cX6_tune 12 = .ok (.ireturn, 1) := by decide +kernel
theorem dX6_tune_13 : decode cX6_tune 13 = .ok (.aload_n 0, 1) := by decide +kernel
theorem dX6_tune_14 : decode cX6_tune 14 = .ok (.getfield 30, 3) := by decide +kernel
theorem dX6_tune_17 : decode cX6_tune 17 = .ok (.getfield 152, 3) := by decide +kernel
theorem dX6_tune_20 : decode cX6_tune 20 = .ok (.istore_n 1, 1) := by decide +kernel
theorem dX6_tune_21 : decode cX6_tune 21 = .ok (.aload_n 0, 1) := by decide +kernel
theorem dX6_tune_22 : decode cX6_tune 22 = .ok (.getfield 40, 3) := by decide +kernel
theorem dX6_tune_25 : decode cX6_tune 25 = .ok (.iconst 1, 1) := by decide +kernel
theorem dX6_tune_26 : decode cX6_tune 26 = .ok (.iconst 0, 1) := by decide +kernel
theorem dX6_tune_27 : decode cX6_tune 27 = .ok (.iload_n 1, 1) := by decide +kernel
theorem dX6_tune_28 : decode cX6_tune 28 = .ok (.invokevirtual 155, 3) := by decide +kernel
theorem dX6_tune_31 : decode cX6_tune 31 = .ok (.aload_n 0, 1) := by decide +kernel
theorem dX6_tune_32 : decode cX6_tune 32 = .ok (.getfield 30, 3) := by decide +kernel
theorem dX6_tune_35 : decode cX6_tune 35 = .ok (.iconst 0, 1) := by decide +kernel
theorem dX6_tune_36 : decode cX6_tune 36 = .ok (.putfield 152, 3) := by decide +kernel
theorem dX6_tune_39 : decode cX6_tune 39 = .ok (.iload_n 1, 1) := by decide +kernel
theorem dX6_tune_40 : decode cX6_tune 40 = .ok (.ireturn, 1) := by decide +kernel
theorem dX6_learn_0 : decode cX6_learn 0 = .ok (.aload_n 0, 1) := by decide +kernel
theorem dX6_learn_1 : decode cX6_learn 1 = .ok (.getfield 30, 3) := by decide +kernel
theorem dX6_learn_4 : decode cX6_learn 4 = .ok (.iload_n 1, 1) := by decide +kernel
theorem dX6_learn_5 : decode cX6_learn 5 = .ok (.invokevirtual 165, 3) := by decide +kernel
theorem dX6_learn_8 : decode cX6_learn 8 = .ok (.ifCond .ne 6, 3) := by decide +kernel
theorem dX6_learn_11 : decode cX6_learn 11 = .ok (.ldc 67, 2) := by decide +kernel
theorem dX6_learn_13 : decode cX6_learn 13 = .ok (.ireturn, 1) := by decide +kernel
theorem dX6_learn_14 : decode cX6_learn 14 = .ok (.aload_n 0, 1) := by decide +kernel
theorem dX6_learn_15 : decode cX6_learn 15 = .ok (.getfield 30, 3) := by decide +kernel
theorem dX6_learn_18 : decode cX6_learn 18 = .ok (.getfield 168, 3) := by decide +kernel
theorem dX6_learn_21 : decode cX6_learn 21 = .ok (.iload_n 1, 1) := by decide +kernel
theorem dX6_learn_22 : decode cX6_learn 22 = .ok (.iaload, 1) := by decide +kernel
theorem dX6_learn_23 : decode cX6_learn 23 = .ok (.istore_n 2, 1) := by decide +kernel
theorem dX6_learn_24 : decode cX6_learn 24 = .ok (.aload_n 0, 1) := by decide +kernel
theorem dX6_learn_25 : decode cX6_learn 25 = .ok (.getfield 40, 3) := by decide +kernel
theorem dX6_learn_28 : decode cX6_learn 28 = .ok (.iconst 2, 1) := by decide +kernel
theorem dX6_learn_29 : decode cX6_learn 29 = .ok (.iload_n 1, 1) := by decide +kernel
theorem dX6_learn_30 : decode cX6_learn 30 = .ok (.iload_n 2, 1) := by decide +kernel
theorem dX6_learn_31 : decode cX6_learn 31 = .ok (.invokevirtual 155, 3) := by decide +kernel
theorem dX6_learn_34 : decode cX6_learn 34 = .ok (.aload_n 0, 1) := by decide +kernel
theorem dX6_learn_35 : decode cX6_learn 35 = .ok (.getfield 30, 3) := by decide +kernel
theorem dX6_learn_38 : decode cX6_learn 38 = .ok (.getfield 168, 3) := by decide +kernel
theorem dX6_learn_41 : decode cX6_learn 41 = .ok (.iload_n 1, 1) := by decide +kernel
theorem dX6_learn_42 : decode cX6_learn 42 = .ok (.aload_n 0, 1) := by decide +kernel
theorem dX6_learn_43 : decode cX6_learn 43 = .ok (.getfield 30, 3) := by decide +kernel
theorem dX6_learn_46 : decode cX6_learn 46 = .ok (.getfield 152, 3) := by decide +kernel
theorem dX6_learn_49 : decode cX6_learn 49 = .ok (.iastore, 1) := by decide +kernel
theorem dX6_learn_50 : decode cX6_learn 50 = .ok (.iload_n 2, 1) := by decide +kernel
theorem dX6_learn_51 : decode cX6_learn 51 = .ok (.ireturn, 1) := by decide +kernel
theorem dX6_piece_0 : decode cX6_piece 0 = .ok (.aload_n 0, 1) := by decide +kernel
theorem dX6_piece_1 : decode cX6_piece 1 = .ok (.getfield 30, 3) := by decide +kernel
theorem dX6_piece_4 : decode cX6_piece 4 = .ok (.iload_n 1, 1) := by decide +kernel
theorem dX6_piece_5 : decode cX6_piece 5 = .ok (.invokevirtual 171, 3) := by decide +kernel
theorem dX6_piece_8 : decode cX6_piece 8 = .ok (.ifCond .eq 8, 3) := by decide +kernel
theorem dX6_piece_11 : decode cX6_piece 11 = .ok (.iload_n 2, 1) := by decide +kernel
theorem dX6_piece_12 : decode cX6_piece 12 = .ok (.iconst (-1), 1) := by decide +kernel
theorem dX6_piece_13 : decode cX6_piece 13 = .ok (.if_icmp .ge 6, 3) := by decide +kernel
theorem dX6_piece_16 : decode cX6_piece 16 = .ok (.ldc 67, 2) := by decide +kernel
theorem dX6_piece_18 : decode cX6_piece 18 = .ok (.ireturn, 1) := by decide +kernel
theorem dX6_piece_19 : decode cX6_piece 19 = .ok (.iload_n 2, 1) := by decide +kernel
theorem dX6_piece_20 : decode cX6_piece 20 = .ok (.iconst (-1), 1) := by decide +kernel
theorem dX6_piece_21 : decode cX6_piece 21 = .ok (.if_icmp .ne 13, 3) := by decide +kernel
theorem dX6_piece_24 : decode cX6_piece 24 = .ok (.aload_n 0, 1) := by decide +kernel
theorem dX6_piece_25 : decode cX6_piece 25 = .ok (.getfield 30, 3) := by decide +kernel
theorem dX6_piece_28 : decode cX6_piece 28 = .ok (.getfield 174, 3) := by decide +kernel
theorem dX6_piece_31 : decode cX6_piece 31 = .ok (.iload_n 1, 1) := by decide +kernel
theorem dX6_piece_32 : decode cX6_piece 32 = .ok (.iaload, 1) := by decide +kernel
theorem dX6_piece_33 : decode cX6_piece 33 = .ok (.ireturn, 1) := by decide +kernel
theorem dX6_piece_34 : decode cX6_piece 34 = .ok (.iload_n 2, 1) := by decide +kernel
theorem dX6_piece_35 : decode cX6_piece 35 = .ok (.aload_n 0, 1) := by decide +kernel
theorem dX6_piece_36 : decode cX6_piece 36 = .ok (.getfield 30, 3) := by decide +kernel
theorem dX6_piece_39 : decode cX6_piece 39 = .ok (.getfield 174, 3) := by decide +kernel
theorem dX6_piece_42 : decode cX6_piece 42 = .ok (.iload_n 1, 1) := by decide +kernel
theorem dX6_piece_43 : decode cX6_piece 43 = .ok (.iaload, 1) := by decide +kernel
theorem dX6_piece_44 : decode cX6_piece 44 = .ok (.if_icmp .ge 15, 3) := by decide +kernel
theorem dX6_piece_47 : decode cX6_piece 47 = .ok (.aload_n 0, 1) := by decide +kernel
theorem dX6_piece_48 : decode cX6_piece 48 = .ok (.getfield 30, 3) := by decide +kernel
theorem dX6_piece_51 : decode cX6_piece 51 = .ok (.iload_n 1, 1) := by decide +kernel
theorem dX6_piece_52 : decode cX6_piece 52 = .ok (.iload_n 2, 1) := by decide +kernel
theorem dX6_piece_53 : decode cX6_piece 53 = .ok (.invokevirtual 177, 3) := by decide +kernel
theorem dX6_piece_56 : decode cX6_piece 56 = .ok (.goto 5, 3) := by decide +kernel
theorem dX6_piece_59 : decode cX6_piece 59 = .ok (.ldc 180, 2) := by decide +kernel
theorem dX6_piece_61 : decode cX6_piece 61 = .ok (.ireturn, 1) := by decide +kernel
theorem dX6_pupil_0 : decode cX6_pupil 0 = .ok (.aload_n 0, 1) := by decide +kernel
theorem dX6_pupil_1 : decode cX6_pupil 1 = .ok (.getfield 30, 3) := by decide +kernel
theorem dX6_pupil_4 : decode cX6_pupil 4 = .ok (.iload_n 1, 1) := by decide +kernel
theorem dX6_pupil_5 : decode cX6_pupil 5 = .ok (.invokevirtual 165, 3) := by decide +kernel
theorem dX6_pupil_8 : decode cX6_pupil 8 = .ok (.ifCond .ne 6, 3) := by decide +kernel
theorem dX6_pupil_11 : decode cX6_pupil 11 = .ok (.ldc 67, 2) := by decide +kernel
theorem dX6_pupil_13 : decode cX6_pupil 13 = .ok (.ireturn, 1) := by decide +kernel
theorem dX6_pupil_14 : decode cX6_pupil 14 = .ok (.iload_n 2, 1) := by decide +kernel
theorem dX6_pupil_15 : decode cX6_pupil 15 = .ok (.tableswitch 82 0 3 #[29, 39, 49, 58], 29) := by decide +kernel
theorem dX6_pupil_44 : decode cX6_pupil 44 = .ok (.aload_n 0, 1) := by decide +kernel
theorem dX6_pupil_45 : decode cX6_pupil 45 = .ok (.getfield 30, 3) := by decide +kernel
theorem dX6_pupil_48 : decode cX6_pupil 48 = .ok (.getfield 168, 3) := by decide +kernel
theorem dX6_pupil_51 : decode cX6_pupil 51 = .ok (.iload_n 1, 1) := by decide +kernel
theorem dX6_pupil_52 : decode cX6_pupil 52 = .ok (.iaload, 1) := by decide +kernel
theorem dX6_pupil_53 : decode cX6_pupil 53 = .ok (.ireturn, 1) := by decide +kernel
theorem dX6_pupil_54 : decode cX6_pupil 54 = .ok (.aload_n 0, 1) := by decide +kernel
theorem dX6_pupil_55 : decode cX6_pupil 55 = .ok (.getfield 30, 3) := by decide +kernel
theorem dX6_pupil_58 : decode cX6_pupil 58 = .ok (.getfield 181, 3) := by decide +kernel
theorem dX6_pupil_61 : decode cX6_pupil 61 = .ok (.iload_n 1, 1) := by decide +kernel
theorem dX6_pupil_62 : decode cX6_pupil 62 = .ok (.iaload, 1) := by decide +kernel
theorem dX6_pupil_63 : decode cX6_pupil 63 = .ok (.ireturn, 1) := by decide +kernel
theorem dX6_pupil_64 : decode cX6_pupil 64 = .ok (.aload_n 0, 1) := by decide +kernel
theorem dX6_pupil_65 : decode cX6_pupil 65 = .ok (.getfield 30, 3) := by decide +kernel
theorem dX6_pupil_68 : decode cX6_pupil 68 = .ok (.iload_n 1, 1) := by decide +kernel
theorem dX6_pupil_69 : decode cX6_pupil 69 = .ok (.invokevirtual 184, 3) := by decide +kernel
theorem dX6_pupil_72 : decode cX6_pupil 72 = .ok (.ireturn, 1) := by decide +kernel
theorem dX6_pupil_73 : decode cX6_pupil 73 = .ok (.aload_n 0, 1) := by decide +kernel
theorem dX6_pupil_74 : decode cX6_pupil 74 = .ok (.getfield 30, 3) := by decide +kernel
theorem dX6_pupil_77 : decode cX6_pupil 77 = .ok (.iload_n 1, 1) := by decide +kernel
theorem dX6_pupil_78 : decode cX6_pupil 78 = .ok (.invokevirtual 184, 3) := by decide +kernel
theorem dX6_pupil_81 : decode cX6_pupil 81 = .ok (.aload_n 0, 1) := by decide +kernel
theorem dX6_pupil_82 : decode cX6_pupil 82 = .ok (.getfield 30, 3) := by decide +kernel
theorem dX6_pupil_85 : decode cX6_pupil 85 = .ok (.getfield 152, 3) := by decide +kernel
